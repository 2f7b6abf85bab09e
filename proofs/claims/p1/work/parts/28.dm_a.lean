theorem db_X12_init_0 : decode cX12_init 0 = .ok (.aload_n 0, 1) ∧ decode cX12_init 1 = .ok (.invokespecial 1, 3) ∧ decode cX12_init 4 = .ok (.aload_n 0, 1) ∧ decode cX12_init 5 = .ok (.sipush 500, 3) ∧ decode cX12_init 8 = .ok (.newarray .int, 2) ∧ decode cX12_init 10 = .ok (.putfield 7, 3) ∧ decode cX12_init 13 = .ok (.aload_n 0, 1) ∧ decode cX12_init 14 = .ok (.sipush 500, 3) ∧ decode cX12_init 17 = .ok (.newarray .int, 2) ∧ decode cX12_init 19 = .ok (.putfield 13, 3) ∧ decode cX12_init 22 = .ok (.aload_n 0, 1) ∧ decode cX12_init 23 = .ok (.sipush 500, 3) ∧ decode cX12_init 26 = .ok (.newarray .int, 2) ∧ decode cX12_init 28 = .ok (.putfield 16, 3) ∧ decode cX12_init 31 = .ok (.aload_n 0, 1) ∧ decode cX12_init 32 = .ok (.sipush 500, 3) := by decide +kernel
theorem dX12_init_0 : decode cX12_init 0 = .ok (.aload_n 0, 1) := db_X12_init_0.1
theorem dX12_init_1 : decode cX12_init 1 = .ok (.invokespecial 1, 3) := db_X12_init_0.2.1
theorem dX12_init_4 : decode cX12_init 4 = .ok (.aload_n 0, 1) := db_X12_init_0.2.2.1
theorem dX12_init_5 : decode cX12_init 5 = .ok (.sipush 500, 3) := db_X12_init_0.2.2.2.1
theorem dX12_init_8 : decode cX12_init 8 = .ok (.newarray .int, 2) := db_X12_init_0.2.2.2.2.1
theorem dX12_init_10 : decode cX12_init 10 = .ok (.putfield 7, 3) := db_X12_init_0.2.2.2.2.2.1
theorem dX12_init_13 : decode cX12_init 13 = .ok (.aload_n 0, 1) := db_X12_init_0.2.2.2.2.2.2.1
theorem dX12_init_14 : decode cX12_init 14 = .ok (.sipush 500, 3) := db_X12_init_0.2.2.2.2.2.2.2.1
theorem dX12_init_17 : decode cX12_init 17 = .ok (.newarray .int, 2) := db_X12_init_0.2.2.2.2.2.2.2.2.1
theorem dX12_init_19 : decode cX12_init 19 = .ok (.putfield 13, 3) := db_X12_init_0.2.2.2.2.2.2.2.2.2.1
theorem dX12_init_22 : decode cX12_init 22 = .ok (.aload_n 0, 1) := db_X12_init_0.2.2.2.2.2.2.2.2.2.2.1
theorem dX12_init_23 : decode cX12_init 23 = .ok (.sipush 500, 3) := db_X12_init_0.2.2.2.2.2.2.2.2.2.2.2.1
theorem dX12_init_26 : decode cX12_init 26 = .ok (.newarray .int, 2) := db_X12_init_0.2.2.2.2.2.2.2.2.2.2.2.2.1
theorem dX12_init_28 : decode cX12_init 28 = .ok (.putfield 16, 3) := db_X12_init_0.2.2.2.2.2.2.2.2.2.2.2.2.2.1
theorem dX12_init_31 : decode cX12_init 31 = .ok (.aload_n 0, 1) := db_X12_init_0.2.2.2.2.2.2.2.2.2.2.2.2.2.2.1
theorem dX12_init_32 : decode cX12_init 32 = .ok (.sipush 500, 3) := db_X12_init_0.2.2.2.2.2.2.2.2.2.2.2.2.2.2.2
theorem db_X12_init_35 : decode cX12_init 35 = .ok (.newarray .int, 2) ∧ decode cX12_init 37 = .ok (.putfield 19, 3) ∧ decode cX12_init 40 = .ok (.aload_n 0, 1) ∧ decode cX12_init 41 = .ok (.sipush 500, 3) ∧ decode cX12_init 44 = .ok (.newarray .int, 2) ∧ decode cX12_init 46 = .ok (.putfield 22, 3) ∧ decode cX12_init 49 = .ok (.aload_n 0, 1) ∧ decode cX12_init 50 = .ok (.sipush 500, 3) ∧ decode cX12_init 53 = .ok (.newarray .int, 2) ∧ decode cX12_init 55 = .ok (.putfield 25, 3) ∧ decode cX12_init 58 = .ok (.aload_n 0, 1) ∧ decode cX12_init 59 = .ok (.sipush 500, 3) ∧ decode cX12_init 62 = .ok (.newarray .int, 2) ∧ decode cX12_init 64 = .ok (.putfield 28, 3) ∧ decode cX12_init 67 = .ok (.aload_n 0, 1) ∧ decode cX12_init 68 = .ok (.sipush 500, 3) := by decide +kernel
theorem dX12_init_35 : decode cX12_init 35 = .ok (.newarray .int, 2) := db_X12_init_35.1
theorem dX12_init_37 : decode cX12_init 37 = .ok (.putfield 19, 3) := db_X12_init_35.2.1
theorem dX12_init_40 : decode cX12_init 40 = .ok (.aload_n 0, 1) := db_X12_init_35.2.2.1
theorem dX12_init_41 : decode cX12_init 41 = .ok (.sipush 500, 3) := db_X12_init_35.2.2.2.1
theorem dX12_init_44 : decode cX12_init 44 = .ok (.newarray .int, 2) := db_X12_init_35.2.2.2.2.1
theorem dX12_init_46 : decode cX12_init 46 = .ok (.putfield 22, 3) := db_X12_init_35.2.2.2.2.2.1
theorem dX12_init_49 : decode cX12_init 49 = .ok (.aload_n 0, 1) := db_X12_init_35.2.2.2.2.2.2.1
theorem dX12_init_50 : decode cX12_init 50 = .ok (.sipush 500, 3) := db_X12_init_35.2.2.2.2.2.2.2.1
theorem dX12_init_53 : decode cX12_init 53 = .ok (.newarray .int, 2) := db_X12_init_35.2.2.2.2.2.2.2.2.1
theorem dX12_init_55 : decode cX12_init 55 = .ok (.putfield 25, 3) := db_X12_init_35.2.2.2.2.2.2.2.2.2.1
theorem dX12_init_58 : decode cX12_init 58 = .ok (.aload_n 0, 1) := db_X12_init_35.2.2.2.2.2.2.2.2.2.2.1
theorem dX12_init_59 : decode cX12_init 59 = .ok (.sipush 500, 3) := db_X12_init_35.2.2.2.2.2.2.2.2.2.2.2.1
theorem dX12_init_62 : decode cX12_init 62 = .ok (.newarray .int, 2) := db_X12_init_35.2.2.2.2.2.2.2.2.2.2.2.2.1
theorem dX12_init_64 : decode cX12_init 64 = .ok (.putfield 28, 3) := db_X12_init_35.2.2.2.2.2.2.2.2.2.2.2.2.2.1
theorem dX12_init_67 : decode cX12_init 67 = .ok (.aload_n 0, 1) := db_X12_init_35.2.2.2.2.2.2.2.2.2.2.2.2.2.2.1
theorem dX12_init_68 : decode cX12_init 68 = .ok (.sipush 500, 3) := db_X12_init_35.2.2.2.2.2.2.2.2.2.2.2.2.2.2.2
theorem db_X12_init_71 : decode cX12_init 71 = .ok (.newarray .int, 2) ∧ decode cX12_init 73 = .ok (.putfield 31, 3) ∧ decode cX12_init 76 = .ok (.aload_n 0, 1) ∧ decode cX12_init 77 = .ok (.sipush 500, 3) ∧ decode cX12_init 80 = .ok (.newarray .boolean, 2) ∧ decode cX12_init 82 = .ok (.putfield 34, 3) ∧ decode cX12_init 85 = .ok (.aload_n 0, 1) ∧ decode cX12_init 86 = .ok (.sipush 500, 3) ∧ decode cX12_init 89 = .ok (.newarray .int, 2) ∧ decode cX12_init 91 = .ok (.putfield 38, 3) ∧ decode cX12_init 94 = .ok (.aload_n 0, 1) ∧ decode cX12_init 95 = .ok (.sipush 5000, 3) ∧ decode cX12_init 98 = .ok (.newarray .int, 2) ∧ decode cX12_init 100 = .ok (.putfield 41, 3) ∧ decode cX12_init 103 = .ok (.aload_n 0, 1) ∧ decode cX12_init 104 = .ok (.sipush 5000, 3) := by decide +kernel
theorem dX12_init_71 : decode cX12_init 71 = .ok (.newarray .int, 2) := db_X12_init_71.1
theorem dX12_init_73 : decode cX12_init 73 = .ok (.putfield 31, 3) := db_X12_init_71.2.1
theorem dX12_init_76 : decode cX12_init 76 = .ok (.aload_n 0, 1) := db_X12_init_71.2.2.1
theorem dX12_init_77 : decode cX12_init 77 = .ok (.sipush 500, 3) := db_X12_init_71.2.2.2.1
theorem dX12_init_80 : decode cX12_init 80 = .ok (.newarray .boolean, 2) := db_X12_init_71.2.2.2.2.1
theorem dX12_init_82 : decode cX12_init 82 = .ok (.putfield 34, 3) := db_X12_init_71.2.2.2.2.2.1
theorem dX12_init_85 : decode cX12_init 85 = .ok (.aload_n 0, 1) := db_X12_init_71.2.2.2.2.2.2.1
theorem dX12_init_86 : decode cX12_init 86 = .ok (.sipush 500, 3) := db_X12_init_71.2.2.2.2.2.2.2.1
theorem dX12_init_89 : decode cX12_init 89 = .ok (.newarray .int, 2) := db_X12_init_71.2.2.2.2.2.2.2.2.1
theorem dX12_init_91 : decode cX12_init 91 = .ok (.putfield 38, 3) := db_X12_init_71.2.2.2.2.2.2.2.2.2.1
theorem dX12_init_94 : decode cX12_init 94 = .ok (.aload_n 0, 1) := db_X12_init_71.2.2.2.2.2.2.2.2.2.2.1
theorem dX12_init_95 : decode cX12_init 95 = .ok (.sipush 5000, 3) := db_X12_init_71.2.2.2.2.2.2.2.2.2.2.2.1
theorem dX12_init_98 : decode cX12_init 98 = .ok (.newarray .int, 2) := db_X12_init_71.2.2.2.2.2.2.2.2.2.2.2.2.1
theorem dX12_init_100 : decode cX12_init 100 = .ok (.putfield 41, 3) := db_X12_init_71.2.2.2.2.2.2.2.2.2.2.2.2.2.1
theorem dX12_init_103 : decode cX12_init 103 = .ok (.aload_n 0, 1) := db_X12_init_71.2.2.2.2.2.2.2.2.2.2.2.2.2.2.1
theorem dX12_init_104 : decode cX12_init 104 = .ok (.sipush 5000, 3) := db_X12_init_71.2.2.2.2.2.2.2.2.2.2.2.2.2.2.2
theorem db_X12_init_107 : decode cX12_init 107 = .ok (.newarray .int, 2) ∧ decode cX12_init 109 = .ok (.putfield 44, 3) ∧ decode cX12_init 112 = .ok (.aload_n 0, 1) ∧ decode cX12_init 113 = .ok (.sipush 30000, 3) ∧ decode cX12_init 116 = .ok (.newarray .int, 2) ∧ decode cX12_init 118 = .ok (.putfield 47, 3) ∧ decode cX12_init 121 = .ok (.aload_n 0, 1) ∧ decode cX12_init 122 = .ok (.sipush 500, 3) ∧ decode cX12_init 125 = .ok (.newarray .int, 2) ∧ decode cX12_init 127 = .ok (.putfield 50, 3) ∧ decode cX12_init 130 = .ok (.aload_n 0, 1) ∧ decode cX12_init 131 = .ok (.bipush 60, 2) ∧ decode cX12_init 133 = .ok (.newarray .int, 2) ∧ decode cX12_init 135 = .ok (.putfield 53, 3) ∧ decode cX12_init 138 = .ok (.aload_n 0, 1) ∧ decode cX12_init 139 = .ok (.sipush 2000, 3) := by decide +kernel
theorem dX12_init_107 : decode cX12_init 107 = .ok (.newarray .int, 2) := db_X12_init_107.1
theorem dX12_init_109 : decode cX12_init 109 = .ok (.putfield 44, 3) := db_X12_init_107.2.1
theorem dX12_init_112 : decode cX12_init 112 = .ok (.aload_n 0, 1) := db_X12_init_107.2.2.1
theorem dX12_init_113 : decode cX12_init 113 = .ok (.sipush 30000, 3) := db_X12_init_107.2.2.2.1
theorem dX12_init_116 : decode cX12_init 116 = .ok (.newarray .int, 2) := db_X12_init_107.2.2.2.2.1
theorem dX12_init_118 : decode cX12_init 118 = .ok (.putfield 47, 3) := db_X12_init_107.2.2.2.2.2.1
theorem dX12_init_121 : decode cX12_init 121 = .ok (.aload_n 0, 1) := db_X12_init_107.2.2.2.2.2.2.1
theorem dX12_init_122 : decode cX12_init 122 = .ok (.sipush 500, 3) := db_X12_init_107.2.2.2.2.2.2.2.1
theorem dX12_init_125 : decode cX12_init 125 = .ok (.newarray .int, 2) := db_X12_init_107.2.2.2.2.2.2.2.2.1
theorem dX12_init_127 : decode cX12_init 127 = .ok (.putfield 50, 3) := db_X12_init_107.2.2.2.2.2.2.2.2.2.1
theorem dX12_init_130 : decode cX12_init 130 = .ok (.aload_n 0, 1) := db_X12_init_107.2.2.2.2.2.2.2.2.2.2.1
theorem dX12_init_131 : decode cX12_init 131 = .ok (.bipush 60, 2) := db_X12_init_107.2.2.2.2.2.2.2.2.2.2.2.1
theorem dX12_init_133 : decode cX12_init 133 = .ok (.newarray .int, 2) := db_X12_init_107.2.2.2.2.2.2.2.2.2.2.2.2.1
theorem dX12_init_135 : decode cX12_init 135 = .ok (.putfield 53, 3) := db_X12_init_107.2.2.2.2.2.2.2.2.2.2.2.2.2.1
theorem dX12_init_138 : decode cX12_init 138 = .ok (.aload_n 0, 1) := db_X12_init_107.2.2.2.2.2.2.2.2.2.2.2.2.2.2.1
theorem dX12_init_139 : decode cX12_init 139 = .ok (.sipush 2000, 3) := db_X12_init_107.2.2.2.2.2.2.2.2.2.2.2.2.2.2.2
theorem db_X12_init_142 : decode cX12_init 142 = .ok (.newarray .int, 2) ∧ decode cX12_init 144 = .ok (.putfield 56, 3) ∧ decode cX12_init 147 = .ok (.aload_n 0, 1) ∧ decode cX12_init 148 = .ok (.sipush 2000, 3) ∧ decode cX12_init 151 = .ok (.newarray .int, 2) ∧ decode cX12_init 153 = .ok (.putfield 59, 3) ∧ decode cX12_init 156 = .ok (.aload_n 0, 1) ∧ decode cX12_init 157 = .ok (.sipush 500, 3) ∧ decode cX12_init 160 = .ok (.newarray .int, 2) ∧ decode cX12_init 162 = .ok (.putfield 62, 3) ∧ decode cX12_init 165 = .ok (.aload_n 0, 1) ∧ decode cX12_init 166 = .ok (.sipush 500, 3) ∧ decode cX12_init 169 = .ok (.newarray .int, 2) ∧ decode cX12_init 171 = .ok (.putfield 65, 3) ∧ decode cX12_init 174 = .ok (.aload_n 0, 1) ∧ decode cX12_init 175 = .ok (.sipush 500, 3) := by decide +kernel
theorem dX12_init_142 : decode cX12_init 142 = .ok (.newarray .int, 2) := db_X12_init_142.1
theorem dX12_init_144 : decode cX12_init 144 = .ok (.putfield 56, 3) := db_X12_init_142.2.1
theorem dX12_init_147 : decode cX12_init 147 = .ok (.aload_n 0, 1) := db_X12_init_142.2.2.1
theorem dX12_init_148 : decode cX12_init 148 = .ok (.sipush 2000, 3) := db_X12_init_142.2.2.2.1
theorem dX12_init_151 : decode cX12_init 151 = .ok (.newarray .int, 2) := db_X12_init_142.2.2.2.2.1
theorem dX12_init_153 : decode cX12_init 153 = .ok (.putfield 59, 3) := db_X12_init_142.2.2.2.2.2.1
theorem dX12_init_156 : decode cX12_init 156 = .ok (.aload_n 0, 1) := db_X12_init_142.2.2.2.2.2.2.1
theorem dX12_init_157 : decode cX12_init 157 = .ok (.sipush 500, 3) := db_X12_init_142.2.2.2.2.2.2.2.1
theorem dX12_init_160 : decode cX12_init 160 = .ok (.newarray .int, 2) := db_X12_init_142.2.2.2.2.2.2.2.2.1
theorem dX12_init_162 : decode cX12_init 162 = .ok (.putfield 62, 3) := db_X12_init_142.2.2.2.2.2.2.2.2.2.1
theorem dX12_init_165 : decode cX12_init 165 = .ok (.aload_n 0, 1) := db_X12_init_142.2.2.2.2.2.2.2.2.2.2.1
theorem dX12_init_166 : decode cX12_init 166 = .ok (.sipush 500, 3) := db_X12_init_142.2.2.2.2.2.2.2.2.2.2.2.1
theorem dX12_init_169 : decode cX12_init 169 = .ok (.newarray .int, 2) := db_X12_init_142.2.2.2.2.2.2.2.2.2.2.2.2.1
theorem dX12_init_171 : decode cX12_init 171 = .ok (.putfield 65, 3) := db_X12_init_142.2.2.2.2.2.2.2.2.2.2.2.2.2.1
theorem dX12_init_174 : decode cX12_init 174 = .ok (.aload_n 0, 1) := db_X12_init_142.2.2.2.2.2.2.2.2.2.2.2.2.2.2.1
theorem dX12_init_175 : decode cX12_init 175 = .ok (.sipush 500, 3) := db_X12_init_142.2.2.2.2.2.2.2.2.2.2.2.2.2.2.2
theorem db_X12_init_178 : decode cX12_init 178 = .ok (.newarray .int, 2) ∧ decode cX12_init 180 = .ok (.putfield 68, 3) ∧ decode cX12_init 183 = .ok (.aload_n 0, 1) ∧ decode cX12_init 184 = .ok (.sipush 500, 3) ∧ decode cX12_init 187 = .ok (.newarray .int, 2) ∧ decode cX12_init 189 = .ok (.putfield 71, 3) ∧ decode cX12_init 192 = .ok (.aload_n 0, 1) ∧ decode cX12_init 193 = .ok (.sipush 12000, 3) ∧ decode cX12_init 196 = .ok (.newarray .int, 2) ∧ decode cX12_init 198 = .ok (.putfield 74, 3) ∧ decode cX12_init 201 = .ok (.aload_n 0, 1) ∧ decode cX12_init 202 = .ok (.bipush 6, 2) ∧ decode cX12_init 204 = .ok (.newarray .boolean, 2) ∧ decode cX12_init 206 = .ok (.putfield 77, 3) ∧ decode cX12_init 209 = .ok (.aload_n 0, 1) ∧ decode cX12_init 210 = .ok (.bipush 6, 2) := by decide +kernel
theorem dX12_init_178 : decode cX12_init 178 = .ok (.newarray .int, 2) := db_X12_init_178.1
theorem dX12_init_180 : decode cX12_init 180 = .ok (.putfield 68, 3) := db_X12_init_178.2.1
theorem dX12_init_183 : decode cX12_init 183 = .ok (.aload_n 0, 1) := db_X12_init_178.2.2.1
theorem dX12_init_184 : decode cX12_init 184 = .ok (.sipush 500, 3) := db_X12_init_178.2.2.2.1
theorem dX12_init_187 : decode cX12_init 187 = .ok (.newarray .int, 2) := db_X12_init_178.2.2.2.2.1
theorem dX12_init_189 : decode cX12_init 189 = .ok (.putfield 71, 3) := db_X12_init_178.2.2.2.2.2.1
theorem dX12_init_192 : decode cX12_init 192 = .ok (.aload_n 0, 1) := db_X12_init_178.2.2.2.2.2.2.1
theorem dX12_init_193 : decode cX12_init 193 = .ok (.sipush 12000, 3) := db_X12_init_178.2.2.2.2.2.2.2.1
theorem dX12_init_196 : decode cX12_init 196 = .ok (.newarray .int, 2) := db_X12_init_178.2.2.2.2.2.2.2.2.1
theorem dX12_init_198 : decode cX12_init 198 = .ok (.putfield 74, 3) := db_X12_init_178.2.2.2.2.2.2.2.2.2.1
theorem dX12_init_201 : decode cX12_init 201 = .ok (.aload_n 0, 1) := db_X12_init_178.2.2.2.2.2.2.2.2.2.2.1
theorem dX12_init_202 : decode cX12_init 202 = .ok (.bipush 6, 2) := db_X12_init_178.2.2.2.2.2.2.2.2.2.2.2.1
theorem dX12_init_204 : decode cX12_init 204 = .ok (.newarray .boolean, 2) := db_X12_init_178.2.2.2.2.2.2.2.2.2.2.2.2.1
theorem dX12_init_206 : decode cX12_init 206 = .ok (.putfield 77, 3) := db_X12_init_178.2.2.2.2.2.2.2.2.2.2.2.2.2.1
theorem dX12_init_209 : decode cX12_init 209 = .ok (.aload_n 0, 1) := db_X12_init_178.2.2.2.2.2.2.2.2.2.2.2.2.2.2.1
theorem dX12_init_210 : decode cX12_init 210 = .ok (.bipush 6, 2) := db_X12_init_178.2.2.2.2.2.2.2.2.2.2.2.2.2.2.2
theorem db_X12_init_212 : decode cX12_init 212 = .ok (.newarray .int, 2) ∧ decode cX12_init 214 = .ok (.putfield 80, 3) ∧ decode cX12_init 217 = .ok (.aload_n 0, 1) ∧ decode cX12_init 218 = .ok (.bipush 6, 2) ∧ decode cX12_init 220 = .ok (.newarray .int, 2) ∧ decode cX12_init 222 = .ok (.putfield 83, 3) ∧ decode cX12_init 225 = .ok (.aload_n 0, 1) ∧ decode cX12_init 226 = .ok (.ldc 86, 2) ∧ decode cX12_init 228 = .ok (.newarray .byte, 2) ∧ decode cX12_init 230 = .ok (.putfield 87, 3) ∧ decode cX12_init 233 = .ok (.aload_n 0, 1) ∧ decode cX12_init 234 = .ok (.bipush 21, 2) ∧ decode cX12_init 236 = .ok (.newarray .int, 2) ∧ decode cX12_init 238 = .ok (.putfield 91, 3) ∧ decode cX12_init 241 = .ok (.aload_n 0, 1) ∧ decode cX12_init 242 = .ok (.bipush 21, 2) := by decide +kernel
theorem dX12_init_212 : decode cX12_init 212 = .ok (.newarray .int, 2) := db_X12_init_212.1
theorem dX12_init_214 : decode cX12_init 214 = .ok (.putfield 80, 3) := db_X12_init_212.2.1
theorem dX12_init_217 : decode cX12_init 217 = .ok (.aload_n 0, 1) := db_X12_init_212.2.2.1
theorem dX12_init_218 : decode cX12_init 218 = .ok (.bipush 6, 2) := db_X12_init_212.2.2.2.1
theorem dX12_init_220 : decode cX12_init 220 = .ok (.newarray .int, 2) := db_X12_init_212.2.2.2.2.1
theorem dX12_init_222 : decode cX12_init 222 = .ok (.putfield 83, 3) := db_X12_init_212.2.2.2.2.2.1
theorem dX12_init_225 : decode cX12_init 225 = .ok (.aload_n 0, 1) := db_X12_init_212.2.2.2.2.2.2.1
theorem dX12_init_226 : decode cX12_init 226 = .ok (.ldc 86, 2) := db_X12_init_212.2.2.2.2.2.2.2.1
theorem dX12_init_228 : decode cX12_init 228 = .ok (.newarray .byte, 2) := db_X12_init_212.2.2.2.2.2.2.2.2.1
theorem dX12_init_230 : decode cX12_init 230 = .ok (.putfield 87, 3) := db_X12_init_212.2.2.2.2.2.2.2.2.2.1
theorem dX12_init_233 : decode cX12_init 233 = .ok (.aload_n 0, 1) := db_X12_init_212.2.2.2.2.2.2.2.2.2.2.1
theorem dX12_init_234 : decode cX12_init 234 = .ok (.bipush 21, 2) := db_X12_init_212.2.2.2.2.2.2.2.2.2.2.2.1
theorem dX12_init_236 : decode cX12_init 236 = .ok (.newarray .int, 2) := db_X12_init_212.2.2.2.2.2.2.2.2.2.2.2.2.1
theorem dX12_init_238 : decode cX12_init 238 = .ok (.putfield 91, 3) := db_X12_init_212.2.2.2.2.2.2.2.2.2.2.2.2.2.1
theorem dX12_init_241 : decode cX12_init 241 = .ok (.aload_n 0, 1) := db_X12_init_212.2.2.2.2.2.2.2.2.2.2.2.2.2.2.1
theorem dX12_init_242 : decode cX12_init 242 = .ok (.bipush 21, 2) := db_X12_init_212.2.2.2.2.2.2.2.2.2.2.2.2.2.2.2
theorem db_X12_init_244 : decode cX12_init 244 = .ok (.newarray .int, 2) ∧ decode cX12_init 246 = .ok (.putfield 94, 3) ∧ decode cX12_init 249 = .ok (.aload_n 0, 1) ∧ decode cX12_init 250 = .ok (.bipush 42, 2) ∧ decode cX12_init 252 = .ok (.newarray .int, 2) ∧ decode cX12_init 254 = .ok (.putfield 97, 3) ∧ decode cX12_init 257 = .ok (.aload_n 0, 1) ∧ decode cX12_init 258 = .ok (.bipush 64, 2) ∧ decode cX12_init 260 = .ok (.newarray .byte, 2) ∧ decode cX12_init 262 = .ok (.putfield 100, 3) ∧ decode cX12_init 265 = .ok (.aload_n 0, 1) ∧ decode cX12_init 266 = .ok (.sipush 6400, 3) ∧ decode cX12_init 269 = .ok (.newarray .byte, 2) ∧ decode cX12_init 271 = .ok (.putfield 103, 3) ∧ decode cX12_init 274 = .ok (.aload_n 0, 1) ∧ decode cX12_init 275 = .ok (.sipush 300, 3) := by decide +kernel
theorem dX12_init_244 : decode cX12_init 244 = .ok (.newarray .int, 2) := db_X12_init_244.1
theorem dX12_init_246 : decode cX12_init 246 = .ok (.putfield 94, 3) := db_X12_init_244.2.1
theorem dX12_init_249 : decode cX12_init 249 = .ok (.aload_n 0, 1) := db_X12_init_244.2.2.1
theorem dX12_init_250 : decode cX12_init 250 = .ok (.bipush 42, 2) := db_X12_init_244.2.2.2.1
theorem dX12_init_252 : decode cX12_init 252 = .ok (.newarray .int, 2) := db_X12_init_244.2.2.2.2.1
theorem dX12_init_254 : decode cX12_init 254 = .ok (.putfield 97, 3) := db_X12_init_244.2.2.2.2.2.1
theorem dX12_init_257 : decode cX12_init 257 = .ok (.aload_n 0, 1) := db_X12_init_244.2.2.2.2.2.2.1
theorem dX12_init_258 : decode cX12_init 258 = .ok (.bipush 64, 2) := db_X12_init_244.2.2.2.2.2.2.2.1
theorem dX12_init_260 : decode cX12_init 260 = .ok (.newarray .byte, 2) := db_X12_init_244.2.2.2.2.2.2.2.2.1
theorem dX12_init_262 : decode cX12_init 262 = .ok (.putfield 100, 3) := db_X12_init_244.2.2.2.2.2.2.2.2.2.1
theorem dX12_init_265 : decode cX12_init 265 = .ok (.aload_n 0, 1) := db_X12_init_244.2.2.2.2.2.2.2.2.2.2.1
theorem dX12_init_266 : decode cX12_init 266 = .ok (.sipush 6400, 3) := db_X12_init_244.2.2.2.2.2.2.2.2.2.2.2.1
theorem dX12_init_269 : decode cX12_init 269 = .ok (.newarray .byte, 2) := db_X12_init_244.2.2.2.2.2.2.2.2.2.2.2.2.1
theorem dX12_init_271 : decode cX12_init 271 = .ok (.putfield 103, 3) := db_X12_init_244.2.2.2.2.2.2.2.2.2.2.2.2.2.1
theorem dX12_init_274 : decode cX12_init 274 = .ok (.aload_n 0, 1) := db_X12_init_244.2.2.2.2.2.2.2.2.2.2.2.2.2.2.1
theorem dX12_init_275 : decode cX12_init 275 = .ok (.sipush 300, 3) := db_X12_init_244.2.2.2.2.2.2.2.2.2.2.2.2.2.2.2
theorem db_X12_init_278 : decode cX12_init 278 = .ok (.newarray .byte, 2) ∧ decode cX12_init 280 = .ok (.putfield 106, 3) ∧ decode cX12_init 283 = .ok (.aload_n 0, 1) ∧ decode cX12_init 284 = .ok (.ldc 109, 2) ∧ decode cX12_init 286 = .ok (.newarray .int, 2) ∧ decode cX12_init 288 = .ok (.putfield 110, 3) ∧ decode cX12_init 291 = .ok (.aload_n 0, 1) ∧ decode cX12_init 292 = .ok (.ldc 109, 2) ∧ decode cX12_init 294 = .ok (.newarray .int, 2) ∧ decode cX12_init 296 = .ok (.putfield 113, 3) ∧ decode cX12_init 299 = .ok (.aload_n 0, 1) ∧ decode cX12_init 300 = .ok (.ldc 109, 2) ∧ decode cX12_init 302 = .ok (.newarray .int, 2) ∧ decode cX12_init 304 = .ok (.putfield 116, 3) ∧ decode cX12_init 307 = .ok (.aload_n 0, 1) ∧ decode cX12_init 308 = .ok (.ldc 109, 2) := by decide +kernel
theorem dX12_init_278 : decode cX12_init 278 = .ok (.newarray .byte, 2) := db_X12_init_278.1
theorem dX12_init_280 : decode cX12_init 280 = .ok (.putfield 106, 3) := db_X12_init_278.2.1
theorem dX12_init_283 : decode cX12_init 283 = .ok (.aload_n 0, 1) := db_X12_init_278.2.2.1
theorem dX12_init_284 : decode cX12_init 284 = .ok (.ldc 109, 2) := db_X12_init_278.2.2.2.1
theorem dX12_init_286 : decode cX12_init 286 = .ok (.newarray .int, 2) := db_X12_init_278.2.2.2.2.1
theorem dX12_init_288 : decode cX12_init 288 = .ok (.putfield 110, 3) := db_X12_init_278.2.2.2.2.2.1
theorem dX12_init_291 : decode cX12_init 291 = .ok (.aload_n 0, 1) := db_X12_init_278.2.2.2.2.2.2.1
theorem dX12_init_292 : decode cX12_init 292 = .ok (.ldc 109, 2) := db_X12_init_278.2.2.2.2.2.2.2.1
theorem dX12_init_294 : decode cX12_init 294 = .ok (.newarray .int, 2) := db_X12_init_278.2.2.2.2.2.2.2.2.1
theorem dX12_init_296 : decode cX12_init 296 = .ok (.putfield 113, 3) := db_X12_init_278.2.2.2.2.2.2.2.2.2.1
theorem dX12_init_299 : decode cX12_init 299 = .ok (.aload_n 0, 1) := db_X12_init_278.2.2.2.2.2.2.2.2.2.2.1
theorem dX12_init_300 : decode cX12_init 300 = .ok (.ldc 109, 2) := db_X12_init_278.2.2.2.2.2.2.2.2.2.2.2.1
theorem dX12_init_302 : decode cX12_init 302 = .ok (.newarray .int, 2) := db_X12_init_278.2.2.2.2.2.2.2.2.2.2.2.2.1
theorem dX12_init_304 : decode cX12_init 304 = .ok (.putfield 116, 3) := db_X12_init_278.2.2.2.2.2.2.2.2.2.2.2.2.2.1
theorem dX12_init_307 : decode cX12_init 307 = .ok (.aload_n 0, 1) := db_X12_init_278.2.2.2.2.2.2.2.2.2.2.2.2.2.2.1
theorem dX12_init_308 : decode cX12_init 308 = .ok (.ldc 109, 2) := db_X12_init_278.2.2.2.2.2.2.2.2.2.2.2.2.2.2.2
theorem db_X12_init_310 : decode cX12_init 310 = .ok (.newarray .int, 2) ∧ decode cX12_init 312 = .ok (.putfield 119, 3) ∧ decode cX12_init 315 = .ok (.aload_n 0, 1) ∧ decode cX12_init 316 = .ok (.ldc 109, 2) ∧ decode cX12_init 318 = .ok (.newarray .int, 2) ∧ decode cX12_init 320 = .ok (.putfield 122, 3) ∧ decode cX12_init 323 = .ok (.aload_n 0, 1) ∧ decode cX12_init 324 = .ok (.bipush 20, 2) ∧ decode cX12_init 326 = .ok (.newarray .int, 2) ∧ decode cX12_init 328 = .ok (.putfield 125, 3) ∧ decode cX12_init 331 = .ok (.aload_n 0, 1) ∧ decode cX12_init 332 = .ok (.bipush 20, 2) ∧ decode cX12_init 334 = .ok (.newarray .int, 2) ∧ decode cX12_init 336 = .ok (.putfield 128, 3) ∧ decode cX12_init 339 = .ok (.aload_n 0, 1) ∧ decode cX12_init 340 = .ok (.bipush 20, 2) := by decide +kernel
theorem dX12_init_310 : decode cX12_init 310 = .ok (.newarray .int, 2) := db_X12_init_310.1
theorem dX12_init_312 : decode cX12_init 312 = .ok (.putfield 119, 3) := db_X12_init_310.2.1
theorem dX12_init_315 : decode cX12_init 315 = .ok (.aload_n 0, 1) := db_X12_init_310.2.2.1
theorem dX12_init_316 : decode cX12_init 316 = .ok (.ldc 109, 2) := db_X12_init_310.2.2.2.1
theorem dX12_init_318 : decode cX12_init 318 = .ok (.newarray .int, 2) := db_X12_init_310.2.2.2.2.1
theorem dX12_init_320 : decode cX12_init 320 = .ok (.putfield 122, 3) := db_X12_init_310.2.2.2.2.2.1
theorem dX12_init_323 : decode cX12_init 323 = .ok (.aload_n 0, 1) := db_X12_init_310.2.2.2.2.2.2.1
theorem dX12_init_324 : decode cX12_init 324 = .ok (.bipush 20, 2) := db_X12_init_310.2.2.2.2.2.2.2.1
theorem dX12_init_326 : decode cX12_init 326 = .ok (.newarray .int, 2) := db_X12_init_310.2.2.2.2.2.2.2.2.1
theorem dX12_init_328 : decode cX12_init 328 = .ok (.putfield 125, 3) := db_X12_init_310.2.2.2.2.2.2.2.2.2.1
theorem dX12_init_331 : decode cX12_init 331 = .ok (.aload_n 0, 1) := db_X12_init_310.2.2.2.2.2.2.2.2.2.2.1
theorem dX12_init_332 : decode cX12_init 332 = .ok (.bipush 20, 2) := db_X12_init_310.2.2.2.2.2.2.2.2.2.2.2.1
theorem dX12_init_334 : decode cX12_init 334 = .ok (.newarray .int, 2) := db_X12_init_310.2.2.2.2.2.2.2.2.2.2.2.2.1
theorem dX12_init_336 : decode cX12_init 336 = .ok (.putfield 128, 3) := db_X12_init_310.2.2.2.2.2.2.2.2.2.2.2.2.2.1
theorem dX12_init_339 : decode cX12_init 339 = .ok (.aload_n 0, 1) := db_X12_init_310.2.2.2.2.2.2.2.2.2.2.2.2.2.2.1
theorem dX12_init_340 : decode cX12_init 340 = .ok (.bipush 20, 2) := db_X12_init_310.2.2.2.2.2.2.2.2.2.2.2.2.2.2.2
theorem db_X12_init_342 : decode cX12_init 342 = .ok (.newarray .int, 2) ∧ decode cX12_init 344 = .ok (.putfield 131, 3) ∧ decode cX12_init 347 = .ok (.aload_n 0, 1) ∧ decode cX12_init 348 = .ok (.bipush 20, 2) ∧ decode cX12_init 350 = .ok (.newarray .int, 2) ∧ decode cX12_init 352 = .ok (.putfield 134, 3) ∧ decode cX12_init 355 = .ok (.aload_n 0, 1) ∧ decode cX12_init 356 = .ok (.bipush 20, 2) ∧ decode cX12_init 358 = .ok (.newarray .int, 2) ∧ decode cX12_init 360 = .ok (.putfield 137, 3) ∧ decode cX12_init 363 = .ok (.aload_n 0, 1) ∧ decode cX12_init 364 = .ok (.bipush 20, 2) ∧ decode cX12_init 366 = .ok (.newarray .int, 2) ∧ decode cX12_init 368 = .ok (.putfield 140, 3) ∧ decode cX12_init 371 = .ok (.aload_n 0, 1) ∧ decode cX12_init 372 = .ok (.bipush 20, 2) := by decide +kernel
theorem dX12_init_342 : decode cX12_init 342 = .ok (.newarray .int, 2) := db_X12_init_342.1
theorem dX12_init_344 : decode cX12_init 344 = .ok (.putfield 131, 3) := db_X12_init_342.2.1
theorem dX12_init_347 : decode cX12_init 347 = .ok (.aload_n 0, 1) := db_X12_init_342.2.2.1
theorem dX12_init_348 : decode cX12_init 348 = .ok (.bipush 20, 2) := db_X12_init_342.2.2.2.1
theorem dX12_init_350 : decode cX12_init 350 = .ok (.newarray .int, 2) := db_X12_init_342.2.2.2.2.1
theorem dX12_init_352 : decode cX12_init 352 = .ok (.putfield 134, 3) := db_X12_init_342.2.2.2.2.2.1
theorem dX12_init_355 : decode cX12_init 355 = .ok (.aload_n 0, 1) := db_X12_init_342.2.2.2.2.2.2.1
theorem dX12_init_356 : decode cX12_init 356 = .ok (.bipush 20, 2) := db_X12_init_342.2.2.2.2.2.2.2.1
theorem dX12_init_358 : decode cX12_init 358 = .ok (.newarray .int, 2) := db_X12_init_342.2.2.2.2.2.2.2.2.1
theorem dX12_init_360 : decode cX12_init 360 = .ok (.putfield 137, 3) := db_X12_init_342.2.2.2.2.2.2.2.2.2.1
theorem dX12_init_363 : decode cX12_init 363 = .ok (.aload_n 0, 1) := db_X12_init_342.2.2.2.2.2.2.2.2.2.2.1
theorem dX12_init_364 : decode cX12_init 364 = .ok (.bipush 20, 2) := db_X12_init_342.2.2.2.2.2.2.2.2.2.2.2.1
theorem dX12_init_366 : decode cX12_init 366 = .ok (.newarray .int, 2) := db_X12_init_342.2.2.2.2.2.2.2.2.2.2.2.2.1
theorem dX12_init_368 : decode cX12_init 368 = .ok (.putfield 140, 3) := db_X12_init_342.2.2.2.2.2.2.2.2.2.2.2.2.2.1
theorem dX12_init_371 : decode cX12_init 371 = .ok (.aload_n 0, 1) := db_X12_init_342.2.2.2.2.2.2.2.2.2.2.2.2.2.2.1
theorem dX12_init_372 : decode cX12_init 372 = .ok (.bipush 20, 2) := db_X12_init_342.2.2.2.2.2.2.2.2.2.2.2.2.2.2.2
theorem db_X12_init_374 : decode cX12_init 374 = .ok (.newarray .int, 2) ∧ decode cX12_init 376 = .ok (.putfield 143, 3) ∧ decode cX12_init 379 = .ok (.aload_n 0, 1) ∧ decode cX12_init 380 = .ok (.sipush 14000, 3) ∧ decode cX12_init 383 = .ok (.newarray .int, 2) ∧ decode cX12_init 385 = .ok (.putfield 146, 3) ∧ decode cX12_init 388 = .ok (.aload_n 0, 1) ∧ decode cX12_init 389 = .ok (.bipush 20, 2) ∧ decode cX12_init 391 = .ok (.newarray .int, 2) ∧ decode cX12_init 393 = .ok (.putfield 149, 3) ∧ decode cX12_init 396 = .ok (.aload_n 0, 1) ∧ decode cX12_init 397 = .ok (.sipush 400, 3) ∧ decode cX12_init 400 = .ok (.newarray .int, 2) ∧ decode cX12_init 402 = .ok (.putfield 152, 3) ∧ decode cX12_init 405 = .ok (.aload_n 0, 1) ∧ decode cX12_init 406 = .ok (.sipush 400, 3) := by decide +kernel
theorem dX12_init_374 : decode cX12_init 374 = .ok (.newarray .int, 2) := db_X12_init_374.1
theorem dX12_init_376 : decode cX12_init 376 = .ok (.putfield 143, 3) := db_X12_init_374.2.1
theorem dX12_init_379 : decode cX12_init 379 = .ok (.aload_n 0, 1) := db_X12_init_374.2.2.1
theorem dX12_init_380 : decode cX12_init 380 = .ok (.sipush 14000, 3) := db_X12_init_374.2.2.2.1
theorem dX12_init_383 : decode cX12_init 383 = .ok (.newarray .int, 2) := db_X12_init_374.2.2.2.2.1
theorem dX12_init_385 : decode cX12_init 385 = .ok (.putfield 146, 3) := db_X12_init_374.2.2.2.2.2.1
theorem dX12_init_388 : decode cX12_init 388 = .ok (.aload_n 0, 1) := db_X12_init_374.2.2.2.2.2.2.1
theorem dX12_init_389 : decode cX12_init 389 = .ok (.bipush 20, 2) := db_X12_init_374.2.2.2.2.2.2.2.1
theorem dX12_init_391 : decode cX12_init 391 = .ok (.newarray .int, 2) := db_X12_init_374.2.2.2.2.2.2.2.2.1
theorem dX12_init_393 : decode cX12_init 393 = .ok (.putfield 149, 3) := db_X12_init_374.2.2.2.2.2.2.2.2.2.1
theorem dX12_init_396 : decode cX12_init 396 = .ok (.aload_n 0, 1) := db_X12_init_374.2.2.2.2.2.2.2.2.2.2.1
theorem dX12_init_397 : decode cX12_init 397 = .ok (.sipush 400, 3) := db_X12_init_374.2.2.2.2.2.2.2.2.2.2.2.1
theorem dX12_init_400 : decode cX12_init 400 = .ok (.newarray .int, 2) := db_X12_init_374.2.2.2.2.2.2.2.2.2.2.2.2.1
theorem dX12_init_402 : decode cX12_init 402 = .ok (.putfield 152, 3) := db_X12_init_374.2.2.2.2.2.2.2.2.2.2.2.2.2.1
theorem dX12_init_405 : decode cX12_init 405 = .ok (.aload_n 0, 1) := db_X12_init_374.2.2.2.2.2.2.2.2.2.2.2.2.2.2.1
theorem dX12_init_406 : decode cX12_init 406 = .ok (.sipush 400, 3) := db_X12_init_374.2.2.2.2.2.2.2.2.2.2.2.2.2.2.2
theorem db_X12_init_409 : decode cX12_init 409 = .ok (.newarray .int, 2) ∧ decode cX12_init 411 = .ok (.putfield 155, 3) ∧ decode cX12_init 414 = .ok (.aload_n 0, 1) ∧ decode cX12_init 415 = .ok (.bipush 100, 2) ∧ decode cX12_init 417 = .ok (.newarray .int, 2) ∧ decode cX12_init 419 = .ok (.putfield 158, 3) ∧ decode cX12_init 422 = .ok (.aload_n 0, 1) ∧ decode cX12_init 423 = .ok (.bipush 100, 2) ∧ decode cX12_init 425 = .ok (.newarray .int, 2) ∧ decode cX12_init 427 = .ok (.putfield 161, 3) ∧ decode cX12_init 430 = .ok (.aload_n 0, 1) ∧ decode cX12_init 431 = .ok (.bipush 100, 2) ∧ decode cX12_init 433 = .ok (.newarray .int, 2) ∧ decode cX12_init 435 = .ok (.putfield 164, 3) ∧ decode cX12_init 438 = .ok (.aload_n 0, 1) ∧ decode cX12_init 439 = .ok (.bipush 100, 2) := by decide +kernel
theorem dX12_init_409 : decode cX12_init 409 = .ok (.newarray .int, 2) := db_X12_init_409.1
theorem dX12_init_411 : decode cX12_init 411 = .ok (.putfield 155, 3) := db_X12_init_409.2.1
theorem dX12_init_414 : decode cX12_init 414 = .ok (.aload_n 0, 1) := db_X12_init_409.2.2.1
theorem dX12_init_415 : decode cX12_init 415 = .ok (.bipush 100, 2) := db_X12_init_409.2.2.2.1
theorem dX12_init_417 : decode cX12_init 417 = .ok (.newarray .int, 2) := db_X12_init_409.2.2.2.2.1
theorem dX12_init_419 : decode cX12_init 419 = .ok (.putfield 158, 3) := db_X12_init_409.2.2.2.2.2.1
theorem dX12_init_422 : decode cX12_init 422 = .ok (.aload_n 0, 1) := db_X12_init_409.2.2.2.2.2.2.1
theorem dX12_init_423 : decode cX12_init 423 = .ok (.bipush 100, 2) := db_X12_init_409.2.2.2.2.2.2.2.1
theorem dX12_init_425 : decode cX12_init 425 = .ok (.newarray .int, 2) := db_X12_init_409.2.2.2.2.2.2.2.2.1
theorem dX12_init_427 : decode cX12_init 427 = .ok (.putfield 161, 3) := db_X12_init_409.2.2.2.2.2.2.2.2.2.1
theorem dX12_init_430 : decode cX12_init 430 = .ok (.aload_n 0, 1) := db_X12_init_409.2.2.2.2.2.2.2.2.2.2.1
theorem dX12_init_431 : decode cX12_init 431 = .ok (.bipush 100, 2) := db_X12_init_409.2.2.2.2.2.2.2.2.2.2.2.1
theorem dX12_init_433 : decode cX12_init 433 = .ok (.newarray .int, 2) := db_X12_init_409.2.2.2.2.2.2.2.2.2.2.2.2.1
theorem dX12_init_435 : decode cX12_init 435 = .ok (.putfield 164, 3) := db_X12_init_409.2.2.2.2.2.2.2.2.2.2.2.2.2.1
theorem dX12_init_438 : decode cX12_init 438 = .ok (.aload_n 0, 1) := db_X12_init_409.2.2.2.2.2.2.2.2.2.2.2.2.2.2.1
theorem dX12_init_439 : decode cX12_init 439 = .ok (.bipush 100, 2) := db_X12_init_409.2.2.2.2.2.2.2.2.2.2.2.2.2.2.2
theorem db_X12_init_441 : decode cX12_init 441 = .ok (.newarray .int, 2) ∧ decode cX12_init 443 = .ok (.putfield 167, 3) ∧ decode cX12_init 446 = .ok (.aload_n 0, 1) ∧ decode cX12_init 447 = .ok (.bipush 100, 2) ∧ decode cX12_init 449 = .ok (.newarray .int, 2) ∧ decode cX12_init 451 = .ok (.putfield 170, 3) ∧ decode cX12_init 454 = .ok (.aload_n 0, 1) ∧ decode cX12_init 455 = .ok (.bipush 100, 2) ∧ decode cX12_init 457 = .ok (.newarray .int, 2) ∧ decode cX12_init 459 = .ok (.putfield 173, 3) ∧ decode cX12_init 462 = .ok (.aload_n 0, 1) ∧ decode cX12_init 463 = .ok (.bipush 24, 2) ∧ decode cX12_init 465 = .ok (.newarray .int, 2) ∧ decode cX12_init 467 = .ok (.putfield 176, 3) ∧ decode cX12_init 470 = .ok (.aload_n 0, 1) ∧ decode cX12_init 471 = .ok (.bipush 24, 2) := by decide +kernel
theorem dX12_init_441 : decode cX12_init 441 = .ok (.newarray .int, 2) := db_X12_init_441.1
theorem dX12_init_443 : decode cX12_init 443 = .ok (.putfield 167, 3) := db_X12_init_441.2.1
theorem dX12_init_446 : decode cX12_init 446 = .ok (.aload_n 0, 1) := db_X12_init_441.2.2.1
theorem dX12_init_447 : decode cX12_init 447 = .ok (.bipush 100, 2) := db_X12_init_441.2.2.2.1
theorem dX12_init_449 : decode cX12_init 449 = .ok (.newarray .int, 2) := db_X12_init_441.2.2.2.2.1
theorem dX12_init_451 : decode cX12_init 451 = .ok (.putfield 170, 3) := db_X12_init_441.2.2.2.2.2.1
theorem dX12_init_454 : decode cX12_init 454 = .ok (.aload_n 0, 1) := db_X12_init_441.2.2.2.2.2.2.1
theorem dX12_init_455 : decode cX12_init 455 = .ok (.bipush 100, 2) := db_X12_init_441.2.2.2.2.2.2.2.1
theorem dX12_init_457 : decode cX12_init 457 = .ok (.newarray .int, 2) := db_X12_init_441.2.2.2.2.2.2.2.2.1
theorem dX12_init_459 : decode cX12_init 459 = .ok (.putfield 173, 3) := db_X12_init_441.2.2.2.2.2.2.2.2.2.1
theorem dX12_init_462 : decode cX12_init 462 = .ok (.aload_n 0, 1) := db_X12_init_441.2.2.2.2.2.2.2.2.2.2.1
theorem dX12_init_463 : decode cX12_init 463 = .ok (.bipush 24, 2) := db_X12_init_441.2.2.2.2.2.2.2.2.2.2.2.1
theorem dX12_init_465 : decode cX12_init 465 = .ok (.newarray .int, 2) := db_X12_init_441.2.2.2.2.2.2.2.2.2.2.2.2.1
theorem dX12_init_467 : decode cX12_init 467 = .ok (.putfield 176, 3) := db_X12_init_441.2.2.2.2.2.2.2.2.2.2.2.2.2.1
theorem dX12_init_470 : decode cX12_init 470 = .ok (.aload_n 0, 1) := db_X12_init_441.2.2.2.2.2.2.2.2.2.2.2.2.2.2.1
theorem dX12_init_471 : decode cX12_init 471 = .ok (.bipush 24, 2) := db_X12_init_441.2.2.2.2.2.2.2.2.2.2.2.2.2.2.2
theorem db_X12_init_473 : decode cX12_init 473 = .ok (.newarray .int, 2) ∧ decode cX12_init 475 = .ok (.putfield 179, 3) ∧ decode cX12_init 478 = .ok (.aload_n 0, 1) ∧ decode cX12_init 479 = .ok (.bipush 24, 2) ∧ decode cX12_init 481 = .ok (.newarray .int, 2) ∧ decode cX12_init 483 = .ok (.putfield 182, 3) ∧ decode cX12_init 486 = .ok (.aload_n 0, 1) ∧ decode cX12_init 487 = .ok (.bipush 24, 2) ∧ decode cX12_init 489 = .ok (.newarray .int, 2) ∧ decode cX12_init 491 = .ok (.putfield 185, 3) ∧ decode cX12_init 494 = .ok (.aload_n 0, 1) ∧ decode cX12_init 495 = .ok (.iconst 5, 1) ∧ decode cX12_init 496 = .ok (.newarray .boolean, 2) ∧ decode cX12_init 498 = .ok (.putfield 188, 3) ∧ decode cX12_init 501 = .ok (.aload_n 0, 1) ∧ decode cX12_init 502 = .ok (.iconst 5, 1) := by decide +kernel
theorem dX12_init_473 : decode cX12_init 473 = .ok (.newarray .int, 2) := db_X12_init_473.1
theorem dX12_init_475 : decode cX12_init 475 = .ok (.putfield 179, 3) := db_X12_init_473.2.1
theorem dX12_init_478 : decode cX12_init 478 = .ok (.aload_n 0, 1) := db_X12_init_473.2.2.1
theorem dX12_init_479 : decode cX12_init 479 = .ok (.bipush 24, 2) := db_X12_init_473.2.2.2.1
theorem dX12_init_481 : decode cX12_init 481 = .ok (.newarray .int, 2) := db_X12_init_473.2.2.2.2.1
theorem dX12_init_483 : decode cX12_init 483 = .ok (.putfield 182, 3) := db_X12_init_473.2.2.2.2.2.1
theorem dX12_init_486 : decode cX12_init 486 = .ok (.aload_n 0, 1) := db_X12_init_473.2.2.2.2.2.2.1
theorem dX12_init_487 : decode cX12_init 487 = .ok (.bipush 24, 2) := db_X12_init_473.2.2.2.2.2.2.2.1
theorem dX12_init_489 : decode cX12_init 489 = .ok (.newarray .int, 2) := db_X12_init_473.2.2.2.2.2.2.2.2.1
theorem dX12_init_491 : decode cX12_init 491 = .ok (.putfield 185, 3) := db_X12_init_473.2.2.2.2.2.2.2.2.2.1
theorem dX12_init_494 : decode cX12_init 494 = .ok (.aload_n 0, 1) := db_X12_init_473.2.2.2.2.2.2.2.2.2.2.1
theorem dX12_init_495 : decode cX12_init 495 = .ok (.iconst 5, 1) := db_X12_init_473.2.2.2.2.2.2.2.2.2.2.2.1
theorem dX12_init_496 : decode cX12_init 496 = .ok (.newarray .boolean, 2) := db_X12_init_473.2.2.2.2.2.2.2.2.2.2.2.2.1
theorem dX12_init_498 : decode cX12_init 498 = .ok (.putfield 188, 3) := db_X12_init_473.2.2.2.2.2.2.2.2.2.2.2.2.2.1
theorem dX12_init_501 : decode cX12_init 501 = .ok (.aload_n 0, 1) := db_X12_init_473.2.2.2.2.2.2.2.2.2.2.2.2.2.2.1
theorem dX12_init_502 : decode cX12_init 502 = .ok (.iconst 5, 1) := db_X12_init_473.2.2.2.2.2.2.2.2.2.2.2.2.2.2.2
theorem db_X12_init_503 : decode cX12_init 503 = .ok (.newarray .int, 2) ∧ decode cX12_init 505 = .ok (.putfield 191, 3) ∧ decode cX12_init 508 = .ok (.aload_n 0, 1) ∧ decode cX12_init 509 = .ok (.bipush 20, 2) ∧ decode cX12_init 511 = .ok (.newarray .int, 2) ∧ decode cX12_init 513 = .ok (.putfield 194, 3) ∧ decode cX12_init 516 = .ok (.aload_n 0, 1) ∧ decode cX12_init 517 = .ok (.bipush 100, 2) ∧ decode cX12_init 519 = .ok (.newarray .int, 2) ∧ decode cX12_init 521 = .ok (.putfield 197, 3) ∧ decode cX12_init 524 = .ok (.aload_n 0, 1) ∧ decode cX12_init 525 = .ok (.sipush 10000, 3) ∧ decode cX12_init 528 = .ok (.newarray .int, 2) ∧ decode cX12_init 530 = .ok (.putfield 200, 3) ∧ decode cX12_init 533 = .ok (.aload_n 0, 1) ∧ decode cX12_init 534 = .ok (.sipush 10000, 3) := by decide +kernel
theorem dX12_init_503 : decode cX12_init 503 = .ok (.newarray .int, 2) := db_X12_init_503.1
theorem dX12_init_505 : decode cX12_init 505 = .ok (.putfield 191, 3) := db_X12_init_503.2.1
theorem dX12_init_508 : decode cX12_init 508 = .ok (.aload_n 0, 1) := db_X12_init_503.2.2.1
theorem dX12_init_509 : decode cX12_init 509 = .ok (.bipush 20, 2) := db_X12_init_503.2.2.2.1
theorem dX12_init_511 : decode cX12_init 511 = .ok (.newarray .int, 2) := db_X12_init_503.2.2.2.2.1
theorem dX12_init_513 : decode cX12_init 513 = .ok (.putfield 194, 3) := db_X12_init_503.2.2.2.2.2.1
theorem dX12_init_516 : decode cX12_init 516 = .ok (.aload_n 0, 1) := db_X12_init_503.2.2.2.2.2.2.1
theorem dX12_init_517 : decode cX12_init 517 = .ok (.bipush 100, 2) := db_X12_init_503.2.2.2.2.2.2.2.1
theorem dX12_init_519 : decode cX12_init 519 = .ok (.newarray .int, 2) := db_X12_init_503.2.2.2.2.2.2.2.2.1
theorem dX12_init_521 : decode cX12_init 521 = .ok (.putfield 197, 3) := db_X12_init_503.2.2.2.2.2.2.2.2.2.1
theorem dX12_init_524 : decode cX12_init 524 = .ok (.aload_n 0, 1) := db_X12_init_503.2.2.2.2.2.2.2.2.2.2.1
theorem dX12_init_525 : decode cX12_init 525 = .ok (.sipush 10000, 3) := db_X12_init_503.2.2.2.2.2.2.2.2.2.2.2.1
theorem dX12_init_528 : decode cX12_init 528 = .ok (.newarray .int, 2) := db_X12_init_503.2.2.2.2.2.2.2.2.2.2.2.2.1
theorem dX12_init_530 : decode cX12_init 530 = .ok (.putfield 200, 3) := db_X12_init_503.2.2.2.2.2.2.2.2.2.2.2.2.2.1
theorem dX12_init_533 : decode cX12_init 533 = .ok (.aload_n 0, 1) := db_X12_init_503.2.2.2.2.2.2.2.2.2.2.2.2.2.2.1
theorem dX12_init_534 : decode cX12_init 534 = .ok (.sipush 10000, 3) := db_X12_init_503.2.2.2.2.2.2.2.2.2.2.2.2.2.2.2
theorem db_X12_init_537 : decode cX12_init 537 = .ok (.newarray .int, 2) ∧ decode cX12_init 539 = .ok (.putfield 203, 3) ∧ decode cX12_init 542 = .ok (.aload_n 0, 1) ∧ decode cX12_init 543 = .ok (.sipush 10000, 3) ∧ decode cX12_init 546 = .ok (.newarray .boolean, 2) ∧ decode cX12_init 548 = .ok (.putfield 206, 3) ∧ decode cX12_init 551 = .ok (.aload_n 0, 1) ∧ decode cX12_init 552 = .ok (.bipush 36, 2) ∧ decode cX12_init 554 = .ok (.newarray .int, 2) ∧ decode cX12_init 556 = .ok (.putfield 209, 3) ∧ decode cX12_init 559 = .ok (.aload_n 0, 1) ∧ decode cX12_init 560 = .ok (.bipush 36, 2) ∧ decode cX12_init 562 = .ok (.newarray .int, 2) ∧ decode cX12_init 564 = .ok (.putfield 212, 3) ∧ decode cX12_init 567 = .ok (.aload_n 0, 1) ∧ decode cX12_init 568 = .ok (.ldc 215, 2) := by decide +kernel
theorem dX12_init_537 : decode cX12_init 537 = .ok (.newarray .int, 2) := db_X12_init_537.1
theorem dX12_init_539 : decode cX12_init 539 = .ok (.putfield 203, 3) := db_X12_init_537.2.1
theorem dX12_init_542 : decode cX12_init 542 = .ok (.aload_n 0, 1) := db_X12_init_537.2.2.1
theorem dX12_init_543 : decode cX12_init 543 = .ok (.sipush 10000, 3) := db_X12_init_537.2.2.2.1
theorem dX12_init_546 : decode cX12_init 546 = .ok (.newarray .boolean, 2) := db_X12_init_537.2.2.2.2.1
theorem dX12_init_548 : decode cX12_init 548 = .ok (.putfield 206, 3) := db_X12_init_537.2.2.2.2.2.1
theorem dX12_init_551 : decode cX12_init 551 = .ok (.aload_n 0, 1) := db_X12_init_537.2.2.2.2.2.2.1
theorem dX12_init_552 : decode cX12_init 552 = .ok (.bipush 36, 2) := db_X12_init_537.2.2.2.2.2.2.2.1
theorem dX12_init_554 : decode cX12_init 554 = .ok (.newarray .int, 2) := db_X12_init_537.2.2.2.2.2.2.2.2.1
theorem dX12_init_556 : decode cX12_init 556 = .ok (.putfield 209, 3) := db_X12_init_537.2.2.2.2.2.2.2.2.2.1
theorem dX12_init_559 : decode cX12_init 559 = .ok (.aload_n 0, 1) := db_X12_init_537.2.2.2.2.2.2.2.2.2.2.1
theorem dX12_init_560 : decode cX12_init 560 = .ok (.bipush 36, 2) := db_X12_init_537.2.2.2.2.2.2.2.2.2.2.2.1
theorem dX12_init_562 : decode cX12_init 562 = .ok (.newarray .int, 2) := db_X12_init_537.2.2.2.2.2.2.2.2.2.2.2.2.1
theorem dX12_init_564 : decode cX12_init 564 = .ok (.putfield 212, 3) := db_X12_init_537.2.2.2.2.2.2.2.2.2.2.2.2.2.1
theorem dX12_init_567 : decode cX12_init 567 = .ok (.aload_n 0, 1) := db_X12_init_537.2.2.2.2.2.2.2.2.2.2.2.2.2.2.1
theorem dX12_init_568 : decode cX12_init 568 = .ok (.ldc 215, 2) := db_X12_init_537.2.2.2.2.2.2.2.2.2.2.2.2.2.2.2
theorem db_X12_init_570 : decode cX12_init 570 = .ok (.newarray .int, 2) ∧ decode cX12_init 572 = .ok (.putfield 216, 3) ∧ decode cX12_init 575 = .ok (.aload_n 0, 1) ∧ decode cX12_init 576 = .ok (.bipush 34, 2) ∧ decode cX12_init 578 = .ok (.newarray .int, 2) ∧ decode cX12_init 580 = .ok (.putfield 219, 3) ∧ decode cX12_init 583 = .ok (.aload_n 0, 1) ∧ decode cX12_init 584 = .ok (.bipush 34, 2) ∧ decode cX12_init 586 = .ok (.newarray .int, 2) ∧ decode cX12_init 588 = .ok (.putfield 222, 3) ∧ decode cX12_init 591 = .ok (.aload_n 0, 1) ∧ decode cX12_init 592 = .ok (.bipush 40, 2) ∧ decode cX12_init 594 = .ok (.newarray .boolean, 2) ∧ decode cX12_init 596 = .ok (.putfield 225, 3) ∧ decode cX12_init 599 = .ok (.aload_n 0, 1) ∧ decode cX12_init 600 = .ok (.bipush 40, 2) := by decide +kernel
theorem dX12_init_570 : decode cX12_init 570 = .ok (.newarray .int, 2) := db_X12_init_570.1
theorem dX12_init_572 : decode cX12_init 572 = .ok (.putfield 216, 3) := db_X12_init_570.2.1
theorem dX12_init_575 : decode cX12_init 575 = .ok (.aload_n 0, 1) := db_X12_init_570.2.2.1
theorem dX12_init_576 : decode cX12_init 576 = .ok (.bipush 34, 2) := db_X12_init_570.2.2.2.1
theorem dX12_init_578 : decode cX12_init 578 = .ok (.newarray .int, 2) := db_X12_init_570.2.2.2.2.1
theorem dX12_init_580 : decode cX12_init 580 = .ok (.putfield 219, 3) := db_X12_init_570.2.2.2.2.2.1
theorem dX12_init_583 : decode cX12_init 583 = .ok (.aload_n 0, 1) := db_X12_init_570.2.2.2.2.2.2.1
theorem dX12_init_584 : decode cX12_init 584 = .ok (.bipush 34, 2) := db_X12_init_570.2.2.2.2.2.2.2.1
theorem dX12_init_586 : decode cX12_init 586 = .ok (.newarray .int, 2) := db_X12_init_570.2.2.2.2.2.2.2.2.1
theorem dX12_init_588 : decode cX12_init 588 = .ok (.putfield 222, 3) := db_X12_init_570.2.2.2.2.2.2.2.2.2.1
theorem dX12_init_591 : decode cX12_init 591 = .ok (.aload_n 0, 1) := db_X12_init_570.2.2.2.2.2.2.2.2.2.2.1
theorem dX12_init_592 : decode cX12_init 592 = .ok (.bipush 40, 2) := db_X12_init_570.2.2.2.2.2.2.2.2.2.2.2.1
theorem dX12_init_594 : decode cX12_init 594 = .ok (.newarray .boolean, 2) := db_X12_init_570.2.2.2.2.2.2.2.2.2.2.2.2.1
theorem dX12_init_596 : decode cX12_init 596 = .ok (.putfield 225, 3) := db_X12_init_570.2.2.2.2.2.2.2.2.2.2.2.2.2.1
theorem dX12_init_599 : decode cX12_init 599 = .ok (.aload_n 0, 1) := db_X12_init_570.2.2.2.2.2.2.2.2.2.2.2.2.2.2.1
theorem dX12_init_600 : decode cX12_init 600 = .ok (.bipush 40, 2) := db_X12_init_570.2.2.2.2.2.2.2.2.2.2.2.2.2.2.2
theorem db_X12_init_602 : decode cX12_init 602 = .ok (.newarray .int, 2) ∧ decode cX12_init 604 = .ok (.putfield 228, 3) ∧ decode cX12_init 607 = .ok (.aload_n 0, 1) ∧ decode cX12_init 608 = .ok (.bipush 40, 2) ∧ decode cX12_init 610 = .ok (.newarray .int, 2) ∧ decode cX12_init 612 = .ok (.putfield 231, 3) ∧ decode cX12_init 615 = .ok (.aload_n 0, 1) ∧ decode cX12_init 616 = .ok (.bipush 40, 2) ∧ decode cX12_init 618 = .ok (.newarray .int, 2) ∧ decode cX12_init 620 = .ok (.putfield 234, 3) ∧ decode cX12_init 623 = .ok (.aload_n 0, 1) ∧ decode cX12_init 624 = .ok (.bipush 40, 2) ∧ decode cX12_init 626 = .ok (.newarray .int, 2) ∧ decode cX12_init 628 = .ok (.putfield 237, 3) ∧ decode cX12_init 631 = .ok (.aload_n 0, 1) ∧ decode cX12_init 632 = .ok (.sipush 4000, 3) := by decide +kernel
theorem dX12_init_602 : decode cX12_init 602 = .ok (.newarray .int, 2) := db_X12_init_602.1
theorem dX12_init_604 : decode cX12_init 604 = .ok (.putfield 228, 3) := db_X12_init_602.2.1
theorem dX12_init_607 : decode cX12_init 607 = .ok (.aload_n 0, 1) := db_X12_init_602.2.2.1
theorem dX12_init_608 : decode cX12_init 608 = .ok (.bipush 40, 2) := db_X12_init_602.2.2.2.1
theorem dX12_init_610 : decode cX12_init 610 = .ok (.newarray .int, 2) := db_X12_init_602.2.2.2.2.1
theorem dX12_init_612 : decode cX12_init 612 = .ok (.putfield 231, 3) := db_X12_init_602.2.2.2.2.2.1
theorem dX12_init_615 : decode cX12_init 615 = .ok (.aload_n 0, 1) := db_X12_init_602.2.2.2.2.2.2.1
theorem dX12_init_616 : decode cX12_init 616 = .ok (.bipush 40, 2) := db_X12_init_602.2.2.2.2.2.2.2.1
theorem dX12_init_618 : decode cX12_init 618 = .ok (.newarray .int, 2) := db_X12_init_602.2.2.2.2.2.2.2.2.1
theorem dX12_init_620 : decode cX12_init 620 = .ok (.putfield 234, 3) := db_X12_init_602.2.2.2.2.2.2.2.2.2.1
theorem dX12_init_623 : decode cX12_init 623 = .ok (.aload_n 0, 1) := db_X12_init_602.2.2.2.2.2.2.2.2.2.2.1
theorem dX12_init_624 : decode cX12_init 624 = .ok (.bipush 40, 2) := db_X12_init_602.2.2.2.2.2.2.2.2.2.2.2.1
theorem dX12_init_626 : decode cX12_init 626 = .ok (.newarray .int, 2) := db_X12_init_602.2.2.2.2.2.2.2.2.2.2.2.2.1
theorem dX12_init_628 : decode cX12_init 628 = .ok (.putfield 237, 3) := db_X12_init_602.2.2.2.2.2.2.2.2.2.2.2.2.2.1
theorem dX12_init_631 : decode cX12_init 631 = .ok (.aload_n 0, 1) := db_X12_init_602.2.2.2.2.2.2.2.2.2.2.2.2.2.2.1
theorem dX12_init_632 : decode cX12_init 632 = .ok (.sipush 4000, 3) := db_X12_init_602.2.2.2.2.2.2.2.2.2.2.2.2.2.2.2
theorem db_X12_init_635 : decode cX12_init 635 = .ok (.newarray .int, 2) ∧ decode cX12_init 637 = .ok (.putfield 240, 3) ∧ decode cX12_init 640 = .ok (.aload_n 0, 1) ∧ decode cX12_init 641 = .ok (.bipush 100, 2) ∧ decode cX12_init 643 = .ok (.newarray .int, 2) ∧ decode cX12_init 645 = .ok (.putfield 243, 3) ∧ decode cX12_init 648 = .ok (.aload_n 0, 1) ∧ decode cX12_init 649 = .ok (.bipush 100, 2) ∧ decode cX12_init 651 = .ok (.newarray .int, 2) ∧ decode cX12_init 653 = .ok (.putfield 246, 3) ∧ decode cX12_init 656 = .ok (.aload_n 0, 1) ∧ decode cX12_init 657 = .ok (.bipush 12, 2) ∧ decode cX12_init 659 = .ok (.newarray .int, 2) ∧ decode cX12_init 661 = .ok (.putfield 249, 3) ∧ decode cX12_init 664 = .ok (.aload_n 0, 1) ∧ decode cX12_init 665 = .ok (.bipush 40, 2) := by decide +kernel
theorem dX12_init_635 : decode cX12_init 635 = .ok (.newarray .int, 2) := db_X12_init_635.1
theorem dX12_init_637 : decode cX12_init 637 = .ok (.putfield 240, 3) := db_X12_init_635.2.1
theorem dX12_init_640 : decode cX12_init 640 = .ok (.aload_n 0, 1) := db_X12_init_635.2.2.1
theorem dX12_init_641 : decode cX12_init 641 = .ok (.bipush 100, 2) := db_X12_init_635.2.2.2.1
theorem dX12_init_643 : decode cX12_init 643 = .ok (.newarray .int, 2) := db_X12_init_635.2.2.2.2.1
theorem dX12_init_645 : decode cX12_init 645 = .ok (.putfield 243, 3) := db_X12_init_635.2.2.2.2.2.1
theorem dX12_init_648 : decode cX12_init 648 = .ok (.aload_n 0, 1) := db_X12_init_635.2.2.2.2.2.2.1
theorem dX12_init_649 : decode cX12_init 649 = .ok (.bipush 100, 2) := db_X12_init_635.2.2.2.2.2.2.2.1
theorem dX12_init_651 : decode cX12_init 651 = .ok (.newarray .int, 2) := db_X12_init_635.2.2.2.2.2.2.2.2.1
theorem dX12_init_653 : decode cX12_init 653 = .ok (.putfield 246, 3) := db_X12_init_635.2.2.2.2.2.2.2.2.2.1
theorem dX12_init_656 : decode cX12_init 656 = .ok (.aload_n 0, 1) := db_X12_init_635.2.2.2.2.2.2.2.2.2.2.1
theorem dX12_init_657 : decode cX12_init 657 = .ok (.bipush 12, 2) := db_X12_init_635.2.2.2.2.2.2.2.2.2.2.2.1
theorem dX12_init_659 : decode cX12_init 659 = .ok (.newarray .int, 2) := db_X12_init_635.2.2.2.2.2.2.2.2.2.2.2.2.1
theorem dX12_init_661 : decode cX12_init 661 = .ok (.putfield 249, 3) := db_X12_init_635.2.2.2.2.2.2.2.2.2.2.2.2.2.1
theorem dX12_init_664 : decode cX12_init 664 = .ok (.aload_n 0, 1) := db_X12_init_635.2.2.2.2.2.2.2.2.2.2.2.2.2.2.1
theorem dX12_init_665 : decode cX12_init 665 = .ok (.bipush 40, 2) := db_X12_init_635.2.2.2.2.2.2.2.2.2.2.2.2.2.2.2
theorem db_X12_init_667 : decode cX12_init 667 = .ok (.newarray .long, 2) ∧ decode cX12_init 669 = .ok (.putfield 252, 3) ∧ decode cX12_init 672 = .ok (.aload_n 0, 1) ∧ decode cX12_init 673 = .ok (.bipush 40, 2) ∧ decode cX12_init 675 = .ok (.newarray .long, 2) ∧ decode cX12_init 677 = .ok (.putfield 256, 3) ∧ decode cX12_init 680 = .ok (.aload_n 0, 1) ∧ decode cX12_init 681 = .ok (.bipush 40, 2) ∧ decode cX12_init 683 = .ok (.newarray .int, 2) ∧ decode cX12_init 685 = .ok (.putfield 259, 3) ∧ decode cX12_init 688 = .ok (.aload_n 0, 1) ∧ decode cX12_init 689 = .ok (.bipush 6, 2) ∧ decode cX12_init 691 = .ok (.newarray .int, 2) ∧ decode cX12_init 693 = .ok (.putfield 262, 3) ∧ decode cX12_init 696 = .ok (.aload_n 0, 1) ∧ decode cX12_init 697 = .ok (.bipush 6, 2) := by decide +kernel
theorem dX12_init_667 : decode cX12_init 667 = .ok (.newarray .long, 2) := db_X12_init_667.1
theorem dX12_init_669 : decode cX12_init 669 = .ok (.putfield 252, 3) := db_X12_init_667.2.1
theorem dX12_init_672 : decode cX12_init 672 = .ok (.aload_n 0, 1) := db_X12_init_667.2.2.1
theorem dX12_init_673 : decode cX12_init 673 = .ok (.bipush 40, 2) := db_X12_init_667.2.2.2.1
theorem dX12_init_675 : decode cX12_init 675 = .ok (.newarray .long, 2) := db_X12_init_667.2.2.2.2.1
theorem dX12_init_677 : decode cX12_init 677 = .ok (.putfield 256, 3) := db_X12_init_667.2.2.2.2.2.1
theorem dX12_init_680 : decode cX12_init 680 = .ok (.aload_n 0, 1) := db_X12_init_667.2.2.2.2.2.2.1
theorem dX12_init_681 : decode cX12_init 681 = .ok (.bipush 40, 2) := db_X12_init_667.2.2.2.2.2.2.2.1
theorem dX12_init_683 : decode cX12_init 683 = .ok (.newarray .int, 2) := db_X12_init_667.2.2.2.2.2.2.2.2.1
theorem dX12_init_685 : decode cX12_init 685 = .ok (.putfield 259, 3) := db_X12_init_667.2.2.2.2.2.2.2.2.2.1
theorem dX12_init_688 : decode cX12_init 688 = .ok (.aload_n 0, 1) := db_X12_init_667.2.2.2.2.2.2.2.2.2.2.1
theorem dX12_init_689 : decode cX12_init 689 = .ok (.bipush 6, 2) := db_X12_init_667.2.2.2.2.2.2.2.2.2.2.2.1
theorem dX12_init_691 : decode cX12_init 691 = .ok (.newarray .int, 2) := db_X12_init_667.2.2.2.2.2.2.2.2.2.2.2.2.1
theorem dX12_init_693 : decode cX12_init 693 = .ok (.putfield 262, 3) := db_X12_init_667.2.2.2.2.2.2.2.2.2.2.2.2.2.1
theorem dX12_init_696 : decode cX12_init 696 = .ok (.aload_n 0, 1) := db_X12_init_667.2.2.2.2.2.2.2.2.2.2.2.2.2.2.1
theorem dX12_init_697 : decode cX12_init 697 = .ok (.bipush 6, 2) := db_X12_init_667.2.2.2.2.2.2.2.2.2.2.2.2.2.2.2
theorem db_X12_init_699 : decode cX12_init 699 = .ok (.newarray .boolean, 2) ∧ decode cX12_init 701 = .ok (.putfield 265, 3) ∧ decode cX12_init 704 = .ok (.aload_n 0, 1) ∧ decode cX12_init 705 = .ok (.bipush 6, 2) ∧ decode cX12_init 707 = .ok (.newarray .int, 2) ∧ decode cX12_init 709 = .ok (.putfield 268, 3) ∧ decode cX12_init 712 = .ok (.aload_n 0, 1) ∧ decode cX12_init 713 = .ok (.bipush 24, 2) ∧ decode cX12_init 715 = .ok (.newarray .boolean, 2) ∧ decode cX12_init 717 = .ok (.putfield 271, 3) ∧ decode cX12_init 720 = .ok (.aload_n 0, 1) ∧ decode cX12_init 721 = .ok (.bipush 24, 2) ∧ decode cX12_init 723 = .ok (.newarray .long, 2) ∧ decode cX12_init 725 = .ok (.putfield 274, 3) ∧ decode cX12_init 728 = .ok (.aload_n 0, 1) ∧ decode cX12_init 729 = .ok (.bipush 24, 2) := by decide +kernel
theorem dX12_init_699 : decode cX12_init 699 = .ok (.newarray .boolean, 2) := db_X12_init_699.1
theorem dX12_init_701 : decode cX12_init 701 = .ok (.putfield 265, 3) := db_X12_init_699.2.1
theorem dX12_init_704 : decode cX12_init 704 = .ok (.aload_n 0, 1) := db_X12_init_699.2.2.1
theorem dX12_init_705 : decode cX12_init 705 = .ok (.bipush 6, 2) := db_X12_init_699.2.2.2.1
theorem dX12_init_707 : decode cX12_init 707 = .ok (.newarray .int, 2) := db_X12_init_699.2.2.2.2.1
theorem dX12_init_709 : decode cX12_init 709 = .ok (.putfield 268, 3) := db_X12_init_699.2.2.2.2.2.1
theorem dX12_init_712 : decode cX12_init 712 = .ok (.aload_n 0, 1) := db_X12_init_699.2.2.2.2.2.2.1
theorem dX12_init_713 : decode cX12_init 713 = .ok (.bipush 24, 2) := db_X12_init_699.2.2.2.2.2.2.2.1
theorem dX12_init_715 : decode cX12_init 715 = .ok (.newarray .boolean, 2) := db_X12_init_699.2.2.2.2.2.2.2.2.1
theorem dX12_init_717 : decode cX12_init 717 = .ok (.putfield 271, 3) := db_X12_init_699.2.2.2.2.2.2.2.2.2.1
theorem dX12_init_720 : decode cX12_init 720 = .ok (.aload_n 0, 1) := db_X12_init_699.2.2.2.2.2.2.2.2.2.2.1
theorem dX12_init_721 : decode cX12_init 721 = .ok (.bipush 24, 2) := db_X12_init_699.2.2.2.2.2.2.2.2.2.2.2.1
theorem dX12_init_723 : decode cX12_init 723 = .ok (.newarray .long, 2) := db_X12_init_699.2.2.2.2.2.2.2.2.2.2.2.2.1
theorem dX12_init_725 : decode cX12_init 725 = .ok (.putfield 274, 3) := db_X12_init_699.2.2.2.2.2.2.2.2.2.2.2.2.2.1
theorem dX12_init_728 : decode cX12_init 728 = .ok (.aload_n 0, 1) := db_X12_init_699.2.2.2.2.2.2.2.2.2.2.2.2.2.2.1
theorem dX12_init_729 : decode cX12_init 729 = .ok (.bipush 24, 2) := db_X12_init_699.2.2.2.2.2.2.2.2.2.2.2.2.2.2.2
theorem db_X12_init_731 : decode cX12_init 731 = .ok (.newarray .long, 2) ∧ decode cX12_init 733 = .ok (.putfield 277, 3) ∧ decode cX12_init 736 = .ok (.aload_n 0, 1) ∧ decode cX12_init 737 = .ok (.bipush 24, 2) ∧ decode cX12_init 739 = .ok (.newarray .int, 2) ∧ decode cX12_init 741 = .ok (.putfield 280, 3) ∧ decode cX12_init 744 = .ok (.aload_n 0, 1) ∧ decode cX12_init 745 = .ok (.bipush 6, 2) ∧ decode cX12_init 747 = .ok (.newarray .boolean, 2) ∧ decode cX12_init 749 = .ok (.putfield 283, 3) ∧ decode cX12_init 752 = .ok (.aload_n 0, 1) ∧ decode cX12_init 753 = .ok (.bipush 24, 2) ∧ decode cX12_init 755 = .ok (.newarray .int, 2) ∧ decode cX12_init 757 = .ok (.putfield 286, 3) ∧ decode cX12_init 760 = .ok (.aload_n 0, 1) ∧ decode cX12_init 761 = .ok (.bipush 11, 2) := by decide +kernel
theorem dX12_init_731 : decode cX12_init 731 = .ok (.newarray .long, 2) := db_X12_init_731.1
theorem dX12_init_733 : decode cX12_init 733 = .ok (.putfield 277, 3) := db_X12_init_731.2.1
theorem dX12_init_736 : decode cX12_init 736 = .ok (.aload_n 0, 1) := db_X12_init_731.2.2.1
theorem dX12_init_737 : decode cX12_init 737 = .ok (.bipush 24, 2) := db_X12_init_731.2.2.2.1
theorem dX12_init_739 : decode cX12_init 739 = .ok (.newarray .int, 2) := db_X12_init_731.2.2.2.2.1
theorem dX12_init_741 : decode cX12_init 741 = .ok (.putfield 280, 3) := db_X12_init_731.2.2.2.2.2.1
theorem dX12_init_744 : decode cX12_init 744 = .ok (.aload_n 0, 1) := db_X12_init_731.2.2.2.2.2.2.1
theorem dX12_init_745 : decode cX12_init 745 = .ok (.bipush 6, 2) := db_X12_init_731.2.2.2.2.2.2.2.1
theorem dX12_init_747 : decode cX12_init 747 = .ok (.newarray .boolean, 2) := db_X12_init_731.2.2.2.2.2.2.2.2.1
theorem dX12_init_749 : decode cX12_init 749 = .ok (.putfield 283, 3) := db_X12_init_731.2.2.2.2.2.2.2.2.2.1
theorem dX12_init_752 : decode cX12_init 752 = .ok (.aload_n 0, 1) := db_X12_init_731.2.2.2.2.2.2.2.2.2.2.1
theorem dX12_init_753 : decode cX12_init 753 = .ok (.bipush 24, 2) := db_X12_init_731.2.2.2.2.2.2.2.2.2.2.2.1
theorem dX12_init_755 : decode cX12_init 755 = .ok (.newarray .int, 2) := db_X12_init_731.2.2.2.2.2.2.2.2.2.2.2.2.1
theorem dX12_init_757 : decode cX12_init 757 = .ok (.putfield 286, 3) := db_X12_init_731.2.2.2.2.2.2.2.2.2.2.2.2.2.1
theorem dX12_init_760 : decode cX12_init 760 = .ok (.aload_n 0, 1) := db_X12_init_731.2.2.2.2.2.2.2.2.2.2.2.2.2.2.1
theorem dX12_init_761 : decode cX12_init 761 = .ok (.bipush 11, 2) := db_X12_init_731.2.2.2.2.2.2.2.2.2.2.2.2.2.2.2
theorem db_X12_init_763 : decode cX12_init 763 = .ok (.newarray .int, 2) ∧ decode cX12_init 765 = .ok (.putfield 289, 3) ∧ decode cX12_init 768 = .ok (.aload_n 0, 1) ∧ decode cX12_init 769 = .ok (.bipush 11, 2) ∧ decode cX12_init 771 = .ok (.newarray .int, 2) ∧ decode cX12_init 773 = .ok (.putfield 292, 3) ∧ decode cX12_init 776 = .ok (.aload_n 0, 1) ∧ decode cX12_init 777 = .ok (.sipush 30000, 3) ∧ decode cX12_init 780 = .ok (.newarray .byte, 2) ∧ decode cX12_init 782 = .ok (.putfield 295, 3) ∧ decode cX12_init 785 = .ok (.aload_n 0, 1) ∧ decode cX12_init 786 = .ok (.sipush 2100, 3) ∧ decode cX12_init 789 = .ok (.newarray .long, 2) ∧ decode cX12_init 791 = .ok (.putfield 298, 3) ∧ decode cX12_init 794 = .ok (.aload_n 0, 1) ∧ decode cX12_init 795 = .ok (.sipush 2100, 3) := by decide +kernel
theorem dX12_init_763 : decode cX12_init 763 = .ok (.newarray .int, 2) := db_X12_init_763.1
theorem dX12_init_765 : decode cX12_init 765 = .ok (.putfield 289, 3) := db_X12_init_763.2.1
theorem dX12_init_768 : decode cX12_init 768 = .ok (.aload_n 0, 1) := db_X12_init_763.2.2.1
theorem dX12_init_769 : decode cX12_init 769 = .ok (.bipush 11, 2) := db_X12_init_763.2.2.2.1
theorem dX12_init_771 : decode cX12_init 771 = .ok (.newarray .int, 2) := db_X12_init_763.2.2.2.2.1
theorem dX12_init_773 : decode cX12_init 773 = .ok (.putfield 292, 3) := db_X12_init_763.2.2.2.2.2.1
theorem dX12_init_776 : decode cX12_init 776 = .ok (.aload_n 0, 1) := db_X12_init_763.2.2.2.2.2.2.1
theorem dX12_init_777 : decode cX12_init 777 = .ok (.sipush 30000, 3) := db_X12_init_763.2.2.2.2.2.2.2.1
theorem dX12_init_780 : decode cX12_init 780 = .ok (.newarray .byte, 2) := db_X12_init_763.2.2.2.2.2.2.2.2.1
theorem dX12_init_782 : decode cX12_init 782 = .ok (.putfield 295, 3) := db_X12_init_763.2.2.2.2.2.2.2.2.2.1
theorem dX12_init_785 : decode cX12_init 785 = .ok (.aload_n 0, 1) := db_X12_init_763.2.2.2.2.2.2.2.2.2.2.1
theorem dX12_init_786 : decode cX12_init 786 = .ok (.sipush 2100, 3) := db_X12_init_763.2.2.2.2.2.2.2.2.2.2.2.1
theorem dX12_init_789 : decode cX12_init 789 = .ok (.newarray .long, 2) := db_X12_init_763.2.2.2.2.2.2.2.2.2.2.2.2.1
theorem dX12_init_791 : decode cX12_init 791 = .ok (.putfield 298, 3) := db_X12_init_763.2.2.2.2.2.2.2.2.2.2.2.2.2.1
theorem dX12_init_794 : decode cX12_init 794 = .ok (.aload_n 0, 1) := db_X12_init_763.2.2.2.2.2.2.2.2.2.2.2.2.2.2.1
theorem dX12_init_795 : decode cX12_init 795 = .ok (.sipush 2100, 3) := db_X12_init_763.2.2.2.2.2.2.2.2.2.2.2.2.2.2.2
theorem db_X12_init_798 : decode cX12_init 798 = .ok (.newarray .long, 2) ∧ decode cX12_init 800 = .ok (.putfield 301, 3) ∧ decode cX12_init 803 = .ok (.aload_n 0, 1) ∧ decode cX12_init 804 = .ok (.sipush 2100, 3) ∧ decode cX12_init 807 = .ok (.newarray .int, 2) ∧ decode cX12_init 809 = .ok (.putfield 304, 3) ∧ decode cX12_init 812 = .ok (.aload_n 0, 1) ∧ decode cX12_init 813 = .ok (.sipush 2100, 3) ∧ decode cX12_init 816 = .ok (.newarray .int, 2) ∧ decode cX12_init 818 = .ok (.putfield 307, 3) ∧ decode cX12_init 821 = .ok (.aload_n 0, 1) ∧ decode cX12_init 822 = .ok (.sipush 2100, 3) ∧ decode cX12_init 825 = .ok (.newarray .int, 2) ∧ decode cX12_init 827 = .ok (.putfield 310, 3) ∧ decode cX12_init 830 = .ok (.aload_n 0, 1) ∧ decode cX12_init 831 = .ok (.iconst 3, 1) := by decide +kernel
theorem dX12_init_798 : decode cX12_init 798 = .ok (.newarray .long, 2) := db_X12_init_798.1
theorem dX12_init_800 : decode cX12_init 800 = .ok (.putfield 301, 3) := db_X12_init_798.2.1
theorem dX12_init_803 : decode cX12_init 803 = .ok (.aload_n 0, 1) := db_X12_init_798.2.2.1
theorem dX12_init_804 : decode cX12_init 804 = .ok (.sipush 2100, 3) := db_X12_init_798.2.2.2.1
theorem dX12_init_807 : decode cX12_init 807 = .ok (.newarray .int, 2) := db_X12_init_798.2.2.2.2.1
theorem dX12_init_809 : decode cX12_init 809 = .ok (.putfield 304, 3) := db_X12_init_798.2.2.2.2.2.1
theorem dX12_init_812 : decode cX12_init 812 = .ok (.aload_n 0, 1) := db_X12_init_798.2.2.2.2.2.2.1
theorem dX12_init_813 : decode cX12_init 813 = .ok (.sipush 2100, 3) := db_X12_init_798.2.2.2.2.2.2.2.1
theorem dX12_init_816 : decode cX12_init 816 = .ok (.newarray .int, 2) := db_X12_init_798.2.2.2.2.2.2.2.2.1
theorem dX12_init_818 : decode cX12_init 818 = .ok (.putfield 307, 3) := db_X12_init_798.2.2.2.2.2.2.2.2.2.1
theorem dX12_init_821 : decode cX12_init 821 = .ok (.aload_n 0, 1) := db_X12_init_798.2.2.2.2.2.2.2.2.2.2.1
theorem dX12_init_822 : decode cX12_init 822 = .ok (.sipush 2100, 3) := db_X12_init_798.2.2.2.2.2.2.2.2.2.2.2.1
theorem dX12_init_825 : decode cX12_init 825 = .ok (.newarray .int, 2) := db_X12_init_798.2.2.2.2.2.2.2.2.2.2.2.2.1
theorem dX12_init_827 : decode cX12_init 827 = .ok (.putfield 310, 3) := db_X12_init_798.2.2.2.2.2.2.2.2.2.2.2.2.2.1
theorem dX12_init_830 : decode cX12_init 830 = .ok (.aload_n 0, 1) := db_X12_init_798.2.2.2.2.2.2.2.2.2.2.2.2.2.2.1
theorem dX12_init_831 : decode cX12_init 831 = .ok (.iconst 3, 1) := db_X12_init_798.2.2.2.2.2.2.2.2.2.2.2.2.2.2.2
theorem db_X12_init_832 : decode cX12_init 832 = .ok (.iconst 2, 1) ∧ decode cX12_init 833 = .ok (.iconst 2, 1) ∧ decode cX12_init 834 = .ok (.invokevirtual 313, 3) ∧ decode cX12_init 837 = .ok (.return_, 1) := by decide +kernel
theorem dX12_init_832 : decode cX12_init 832 = .ok (.iconst 2, 1) := db_X12_init_832.1
theorem dX12_init_833 : decode cX12_init 833 = .ok (.iconst 2, 1) := db_X12_init_832.2.1
theorem dX12_init_834 : decode cX12_init 834 = .ok (.invokevirtual 313, 3) := db_X12_init_832.2.2.1
theorem dX12_init_837 : decode cX12_init 837 = .ok (.return_, 1) := db_X12_init_832.2.2.2
theorem db_X12_thrown_0 : decode cX12_thrown 0 = .ok (.aload_n 0, 1) ∧ decode cX12_thrown 1 = .ok (.getfield 317, 3) ∧ decode cX12_thrown 4 = .ok (.ireturn, 1) := by decide +kernel
theorem dX12_thrown_0 : decode cX12_thrown 0 = .ok (.aload_n 0, 1) := db_X12_thrown_0.1
theorem dX12_thrown_1 : decode cX12_thrown 1 = .ok (.getfield 317, 3) := db_X12_thrown_0.2.1
theorem dX12_thrown_4 : decode cX12_thrown 4 = .ok (.ireturn, 1) := db_X12_thrown_0.2.2
theorem db_X12_hasCopy_0 : decode cX12_hasCopy 0 = .ok (.iload_n 1, 1) ∧ decode cX12_hasCopy 1 = .ok (.aload_n 0, 1) ∧ decode cX12_hasCopy 2 = .ok (.getfield 321, 3) ∧ decode cX12_hasCopy 5 = .ok (.if_icmp .ge 32, 3) ∧ decode cX12_hasCopy 8 = .ok (.iload_n 1, 1) ∧ decode cX12_hasCopy 9 = .ok (.iload_n 2, 1) ∧ decode cX12_hasCopy 10 = .ok (.aload_n 0, 1) ∧ decode cX12_hasCopy 11 = .ok (.getfield 321, 3) ∧ decode cX12_hasCopy 14 = .ok (.irem, 1) ∧ decode cX12_hasCopy 15 = .ok (.isub, 1) ∧ decode cX12_hasCopy 16 = .ok (.aload_n 0, 1) ∧ decode cX12_hasCopy 17 = .ok (.getfield 321, 3) ∧ decode cX12_hasCopy 20 = .ok (.iadd, 1) ∧ decode cX12_hasCopy 21 = .ok (.aload_n 0, 1) ∧ decode cX12_hasCopy 22 = .ok (.getfield 321, 3) ∧ decode cX12_hasCopy 25 = .ok (.irem, 1) := by decide +kernel
theorem dX12_hasCopy_0 : decode cX12_hasCopy 0 = .ok (.iload_n 1, 1) := db_X12_hasCopy_0.1
theorem dX12_hasCopy_1 : decode cX12_hasCopy 1 = .ok (.aload_n 0, 1) := db_X12_hasCopy_0.2.1
theorem dX12_hasCopy_2 : decode cX12_hasCopy 2 = .ok (.getfield 321, 3) := db_X12_hasCopy_0.2.2.1
theorem dX12_hasCopy_5 : decode cX12_hasCopy 5 = .ok (.if_icmp .ge 32, 3) := db_X12_hasCopy_0.2.2.2.1
theorem dX12_hasCopy_8 : decode cX12_hasCopy 8 = .ok (.iload_n 1, 1) := db_X12_hasCopy_0.2.2.2.2.1
theorem dX12_hasCopy_9 : decode cX12_hasCopy 9 = .ok (.iload_n 2, 1) := db_X12_hasCopy_0.2.2.2.2.2.1
theorem dX12_hasCopy_10 : decode cX12_hasCopy 10 = .ok (.aload_n 0, 1) := db_X12_hasCopy_0.2.2.2.2.2.2.1
theorem dX12_hasCopy_11 : decode cX12_hasCopy 11 = .ok (.getfield 321, 3) := db_X12_hasCopy_0.2.2.2.2.2.2.2.1
theorem dX12_hasCopy_14 : decode cX12_hasCopy 14 = .ok (.irem, 1) := db_X12_hasCopy_0.2.2.2.2.2.2.2.2.1
theorem dX12_hasCopy_15 : decode cX12_hasCopy 15 = .ok (.isub, 1) := db_X12_hasCopy_0.2.2.2.2.2.2.2.2.2.1
theorem dX12_hasCopy_16 : decode cX12_hasCopy 16 = .ok (.aload_n 0, 1) := db_X12_hasCopy_0.2.2.2.2.2.2.2.2.2.2.1
theorem dX12_hasCopy_17 : decode cX12_hasCopy 17 = .ok (.getfield 321, 3) := db_X12_hasCopy_0.2.2.2.2.2.2.2.2.2.2.2.1
theorem dX12_hasCopy_20 : decode cX12_hasCopy 20 = .ok (.iadd, 1) := db_X12_hasCopy_0.2.2.2.2.2.2.2.2.2.2.2.2.1
theorem dX12_hasCopy_21 : decode cX12_hasCopy 21 = .ok (.aload_n 0, 1) := db_X12_hasCopy_0.2.2.2.2.2.2.2.2.2.2.2.2.2.1
theorem dX12_hasCopy_22 : decode cX12_hasCopy 22 = .ok (.getfield 321, 3) := db_X12_hasCopy_0.2.2.2.2.2.2.2.2.2.2.2.2.2.2.1
theorem dX12_hasCopy_25 : decode cX12_hasCopy 25 = .ok (.irem, 1) := db_X12_hasCopy_0.2.2.2.2.2.2.2.2.2.2.2.2.2.2.2
theorem db_X12_hasCopy_26 : decode cX12_hasCopy 26 = .ok (.aload_n 0, 1) ∧ decode cX12_hasCopy 27 = .ok (.getfield 324, 3) ∧ decode cX12_hasCopy 30 = .ok (.if_icmp .ge 7, 3) ∧ decode cX12_hasCopy 33 = .ok (.iconst 1, 1) ∧ decode cX12_hasCopy 34 = .ok (.goto 4, 3) ∧ decode cX12_hasCopy 37 = .ok (.iconst 0, 1) ∧ decode cX12_hasCopy 38 = .ok (.ireturn, 1) := by decide +kernel
theorem dX12_hasCopy_26 : decode cX12_hasCopy 26 = .ok (.aload_n 0, 1) := db_X12_hasCopy_26.1
theorem dX12_hasCopy_27 : decode cX12_hasCopy 27 = .ok (.getfield 324, 3) := db_X12_hasCopy_26.2.1
theorem dX12_hasCopy_30 : decode cX12_hasCopy 30 = .ok (.if_icmp .ge 7, 3) := db_X12_hasCopy_26.2.2.1
theorem dX12_hasCopy_33 : decode cX12_hasCopy 33 = .ok (.iconst 1, 1) := db_X12_hasCopy_26.2.2.2.1
theorem dX12_hasCopy_34 : decode cX12_hasCopy 34 = .ok (.goto 4, 3) := db_X12_hasCopy_26.2.2.2.2.1
theorem dX12_hasCopy_37 : decode cX12_hasCopy 37 = .ok (.iconst 0, 1) := db_X12_hasCopy_26.2.2.2.2.2.1
theorem dX12_hasCopy_38 : decode cX12_hasCopy 38 = .ok (.ireturn, 1) := db_X12_hasCopy_26.2.2.2.2.2.2
theorem db_X12_copyOf_0 : decode cX12_copyOf 0 = .ok (.iconst 4, 1) ∧ decode cX12_copyOf 1 = .ok (.iload_n 1, 1) ∧ decode cX12_copyOf 2 = .ok (.imul, 1) ∧ decode cX12_copyOf 3 = .ok (.iload_n 2, 1) ∧ decode cX12_copyOf 4 = .ok (.iadd, 1) ∧ decode cX12_copyOf 5 = .ok (.ireturn, 1) := by decide +kernel
theorem dX12_copyOf_0 : decode cX12_copyOf 0 = .ok (.iconst 4, 1) := db_X12_copyOf_0.1
theorem dX12_copyOf_1 : decode cX12_copyOf 1 = .ok (.iload_n 1, 1) := db_X12_copyOf_0.2.1
theorem dX12_copyOf_2 : decode cX12_copyOf 2 = .ok (.imul, 1) := db_X12_copyOf_0.2.2.1
theorem dX12_copyOf_3 : decode cX12_copyOf 3 = .ok (.iload_n 2, 1) := db_X12_copyOf_0.2.2.2.1
theorem dX12_copyOf_4 : decode cX12_copyOf 4 = .ok (.iadd, 1) := db_X12_copyOf_0.2.2.2.2.1
theorem dX12_copyOf_5 : decode cX12_copyOf 5 = .ok (.ireturn, 1) := db_X12_copyOf_0.2.2.2.2.2
theorem db_X12_begin_0 : decode cX12_begin 0 = .ok (.aload_n 0, 1) ∧ decode cX12_begin 1 = .ok (.iload_n 1, 1) ∧ decode cX12_begin 2 = .ok (.putfield 321, 3) ∧ decode cX12_begin 5 = .ok (.aload_n 0, 1) ∧ decode cX12_begin 6 = .ok (.iload_n 2, 1) ∧ decode cX12_begin 7 = .ok (.putfield 327, 3) ∧ decode cX12_begin 10 = .ok (.aload_n 0, 1) ∧ decode cX12_begin 11 = .ok (.iload_n 3, 1) ∧ decode cX12_begin 12 = .ok (.putfield 324, 3) ∧ decode cX12_begin 15 = .ok (.aload_n 0, 1) ∧ decode cX12_begin 16 = .ok (.iconst 0, 1) ∧ decode cX12_begin 17 = .ok (.putfield 330, 3) ∧ decode cX12_begin 20 = .ok (.aload_n 0, 1) ∧ decode cX12_begin 21 = .ok (.iconst 0, 1) ∧ decode cX12_begin 22 = .ok (.putfield 333, 3) ∧ decode cX12_begin 25 = .ok (.aload_n 0, 1) := by decide +kernel
theorem dX12_begin_0 : decode cX12_begin 0 = .ok (.aload_n 0, 1) := db_X12_begin_0.1
theorem dX12_begin_1 : decode cX12_begin 1 = .ok (.iload_n 1, 1) := db_X12_begin_0.2.1
theorem dX12_begin_2 : decode cX12_begin 2 = .ok (.putfield 321, 3) := db_X12_begin_0.2.2.1
theorem dX12_begin_5 : decode cX12_begin 5 = .ok (.aload_n 0, 1) := db_X12_begin_0.2.2.2.1
theorem dX12_begin_6 : decode cX12_begin 6 = .ok (.iload_n 2, 1) := db_X12_begin_0.2.2.2.2.1
theorem dX12_begin_7 : decode cX12_begin 7 = .ok (.putfield 327, 3) := db_X12_begin_0.2.2.2.2.2.1
theorem dX12_begin_10 : decode cX12_begin 10 = .ok (.aload_n 0, 1) := db_X12_begin_0.2.2.2.2.2.2.1
theorem dX12_begin_11 : decode cX12_begin 11 = .ok (.iload_n 3, 1) := db_X12_begin_0.2.2.2.2.2.2.2.1
theorem dX12_begin_12 : decode cX12_begin 12 = .ok (.putfield 324, 3) := db_X12_begin_0.2.2.2.2.2.2.2.2.1
theorem dX12_begin_15 : decode cX12_begin 15 = .ok (.aload_n 0, 1) := db_X12_begin_0.2.2.2.2.2.2.2.2.2.1
theorem dX12_begin_16 : decode cX12_begin 16 = .ok (.iconst 0, 1) := db_X12_begin_0.2.2.2.2.2.2.2.2.2.2.1
theorem dX12_begin_17 : decode cX12_begin 17 = .ok (.putfield 330, 3) := db_X12_begin_0.2.2.2.2.2.2.2.2.2.2.2.1
theorem dX12_begin_20 : decode cX12_begin 20 = .ok (.aload_n 0, 1) := db_X12_begin_0.2.2.2.2.2.2.2.2.2.2.2.2.1
theorem dX12_begin_21 : decode cX12_begin 21 = .ok (.iconst 0, 1) := db_X12_begin_0.2.2.2.2.2.2.2.2.2.2.2.2.2.1
theorem dX12_begin_22 : decode cX12_begin 22 = .ok (.putfield 333, 3) := db_X12_begin_0.2.2.2.2.2.2.2.2.2.2.2.2.2.2.1
theorem dX12_begin_25 : decode cX12_begin 25 = .ok (.aload_n 0, 1) := db_X12_begin_0.2.2.2.2.2.2.2.2.2.2.2.2.2.2.2
theorem db_X12_begin_26 : decode cX12_begin 26 = .ok (.iconst 1, 1) ∧ decode cX12_begin 27 = .ok (.putfield 336, 3) ∧ decode cX12_begin 30 = .ok (.aload_n 0, 1) ∧ decode cX12_begin 31 = .ok (.getfield 119, 3) ∧ decode cX12_begin 34 = .ok (.iconst 0, 1) ∧ decode cX12_begin 35 = .ok (.iconst (-1), 1) ∧ decode cX12_begin 36 = .ok (.iastore, 1) ∧ decode cX12_begin 37 = .ok (.aload_n 0, 1) ∧ decode cX12_begin 38 = .ok (.iconst 0, 1) ∧ decode cX12_begin 39 = .ok (.putfield 339, 3) ∧ decode cX12_begin 42 = .ok (.aload_n 0, 1) ∧ decode cX12_begin 43 = .ok (.iconst 0, 1) ∧ decode cX12_begin 44 = .ok (.putfield 342, 3) ∧ decode cX12_begin 47 = .ok (.aload_n 0, 1) ∧ decode cX12_begin 48 = .ok (.iconst 0, 1) ∧ decode cX12_begin 49 = .ok (.putfield 345, 3) := by decide +kernel
theorem dX12_begin_26 : decode cX12_begin 26 = .ok (.iconst 1, 1) := db_X12_begin_26.1
theorem dX12_begin_27 : decode cX12_begin 27 = .ok (.putfield 336, 3) := db_X12_begin_26.2.1
theorem dX12_begin_30 : decode cX12_begin 30 = .ok (.aload_n 0, 1) := db_X12_begin_26.2.2.1
theorem dX12_begin_31 : decode cX12_begin 31 = .ok (.getfield 119, 3) := db_X12_begin_26.2.2.2.1
theorem dX12_begin_34 : decode cX12_begin 34 = .ok (.iconst 0, 1) := db_X12_begin_26.2.2.2.2.1
theorem dX12_begin_35 : decode cX12_begin 35 = .ok (.iconst (-1), 1) := db_X12_begin_26.2.2.2.2.2.1
theorem dX12_begin_36 : decode cX12_begin 36 = .ok (.iastore, 1) := db_X12_begin_26.2.2.2.2.2.2.1
theorem dX12_begin_37 : decode cX12_begin 37 = .ok (.aload_n 0, 1) := db_X12_begin_26.2.2.2.2.2.2.2.1
theorem dX12_begin_38 : decode cX12_begin 38 = .ok (.iconst 0, 1) := db_X12_begin_26.2.2.2.2.2.2.2.2.1
theorem dX12_begin_39 : decode cX12_begin 39 = .ok (.putfield 339, 3) := db_X12_begin_26.2.2.2.2.2.2.2.2.2.1
theorem dX12_begin_42 : decode cX12_begin 42 = .ok (.aload_n 0, 1) := db_X12_begin_26.2.2.2.2.2.2.2.2.2.2.1
theorem dX12_begin_43 : decode cX12_begin 43 = .ok (.iconst 0, 1) := db_X12_begin_26.2.2.2.2.2.2.2.2.2.2.2.1
theorem dX12_begin_44 : decode cX12_begin 44 = .ok (.putfield 342, 3) := db_X12_begin_26.2.2.2.2.2.2.2.2.2.2.2.2.1
theorem dX12_begin_47 : decode cX12_begin 47 = .ok (.aload_n 0, 1) := db_X12_begin_26.2.2.2.2.2.2.2.2.2.2.2.2.2.1
theorem dX12_begin_48 : decode cX12_begin 48 = .ok (.iconst 0, 1) := db_X12_begin_26.2.2.2.2.2.2.2.2.2.2.2.2.2.2.1
theorem dX12_begin_49 : decode cX12_begin 49 = .ok (.putfield 345, 3) := db_X12_begin_26.2.2.2.2.2.2.2.2.2.2.2.2.2.2.2
theorem db_X12_begin_52 : decode cX12_begin 52 = .ok (.iconst 0, 1) ∧ decode cX12_begin 53 = .ok (.istore 4, 2) ∧ decode cX12_begin 55 = .ok (.iload 4, 2) ∧ decode cX12_begin 57 = .ok (.ldc 86, 2) ∧ decode cX12_begin 59 = .ok (.if_icmp .ge 17, 3) ∧ decode cX12_begin 62 = .ok (.aload_n 0, 1) ∧ decode cX12_begin 63 = .ok (.getfield 87, 3) ∧ decode cX12_begin 66 = .ok (.iload 4, 2) ∧ decode cX12_begin 68 = .ok (.iconst 0, 1) ∧ decode cX12_begin 69 = .ok (.bastore, 1) ∧ decode cX12_begin 70 = .ok (.iinc 4 1, 3) ∧ decode cX12_begin 73 = .ok (.goto (-18), 3) ∧ decode cX12_begin 76 = .ok (.iconst 0, 1) ∧ decode cX12_begin 77 = .ok (.istore 4, 2) ∧ decode cX12_begin 79 = .ok (.iload 4, 2) ∧ decode cX12_begin 81 = .ok (.bipush 36, 2) := by decide +kernel
theorem dX12_begin_52 : decode cX12_begin 52 = .ok (.iconst 0, 1) := db_X12_begin_52.1
theorem dX12_begin_53 : decode cX12_begin 53 = .ok (.istore 4, 2) := db_X12_begin_52.2.1
theorem dX12_begin_55 : decode cX12_begin 55 = .ok (.iload 4, 2) := db_X12_begin_52.2.2.1
theorem dX12_begin_57 : decode cX12_begin 57 = .ok (.ldc 86, 2) := db_X12_begin_52.2.2.2.1
theorem dX12_begin_59 : decode cX12_begin 59 = .ok (.if_icmp .ge 17, 3) := db_X12_begin_52.2.2.2.2.1
theorem dX12_begin_62 : decode cX12_begin 62 = .ok (.aload_n 0, 1) := db_X12_begin_52.2.2.2.2.2.1
theorem dX12_begin_63 : decode cX12_begin 63 = .ok (.getfield 87, 3) := db_X12_begin_52.2.2.2.2.2.2.1
theorem dX12_begin_66 : decode cX12_begin 66 = .ok (.iload 4, 2) := db_X12_begin_52.2.2.2.2.2.2.2.1
theorem dX12_begin_68 : decode cX12_begin 68 = .ok (.iconst 0, 1) := db_X12_begin_52.2.2.2.2.2.2.2.2.1
theorem dX12_begin_69 : decode cX12_begin 69 = .ok (.bastore, 1) := db_X12_begin_52.2.2.2.2.2.2.2.2.2.1
theorem dX12_begin_70 : decode cX12_begin 70 = .ok (.iinc 4 1, 3) := db_X12_begin_52.2.2.2.2.2.2.2.2.2.2.1
theorem dX12_begin_73 : decode cX12_begin 73 = .ok (.goto (-18), 3) := db_X12_begin_52.2.2.2.2.2.2.2.2.2.2.2.1
theorem dX12_begin_76 : decode cX12_begin 76 = .ok (.iconst 0, 1) := db_X12_begin_52.2.2.2.2.2.2.2.2.2.2.2.2.1
theorem dX12_begin_77 : decode cX12_begin 77 = .ok (.istore 4, 2) := db_X12_begin_52.2.2.2.2.2.2.2.2.2.2.2.2.2.1
theorem dX12_begin_79 : decode cX12_begin 79 = .ok (.iload 4, 2) := db_X12_begin_52.2.2.2.2.2.2.2.2.2.2.2.2.2.2.1
theorem dX12_begin_81 : decode cX12_begin 81 = .ok (.bipush 36, 2) := db_X12_begin_52.2.2.2.2.2.2.2.2.2.2.2.2.2.2.2
theorem db_X12_begin_83 : decode cX12_begin 83 = .ok (.if_icmp .ge 25, 3) ∧ decode cX12_begin 86 = .ok (.aload_n 0, 1) ∧ decode cX12_begin 87 = .ok (.getfield 209, 3) ∧ decode cX12_begin 90 = .ok (.iload 4, 2) ∧ decode cX12_begin 92 = .ok (.iconst 0, 1) ∧ decode cX12_begin 93 = .ok (.iastore, 1) ∧ decode cX12_begin 94 = .ok (.aload_n 0, 1) ∧ decode cX12_begin 95 = .ok (.getfield 212, 3) ∧ decode cX12_begin 98 = .ok (.iload 4, 2) ∧ decode cX12_begin 100 = .ok (.iconst 0, 1) ∧ decode cX12_begin 101 = .ok (.iastore, 1) ∧ decode cX12_begin 102 = .ok (.iinc 4 1, 3) ∧ decode cX12_begin 105 = .ok (.goto (-26), 3) ∧ decode cX12_begin 108 = .ok (.iconst 0, 1) ∧ decode cX12_begin 109 = .ok (.istore 4, 2) ∧ decode cX12_begin 111 = .ok (.iload 4, 2) := by decide +kernel
theorem dX12_begin_83 : decode cX12_begin 83 = .ok (.if_icmp .ge 25, 3) := db_X12_begin_83.1
theorem dX12_begin_86 : decode cX12_begin 86 = .ok (.aload_n 0, 1) := db_X12_begin_83.2.1
theorem dX12_begin_87 : decode cX12_begin 87 = .ok (.getfield 209, 3) := db_X12_begin_83.2.2.1
theorem dX12_begin_90 : decode cX12_begin 90 = .ok (.iload 4, 2) := db_X12_begin_83.2.2.2.1
theorem dX12_begin_92 : decode cX12_begin 92 = .ok (.iconst 0, 1) := db_X12_begin_83.2.2.2.2.1
theorem dX12_begin_93 : decode cX12_begin 93 = .ok (.iastore, 1) := db_X12_begin_83.2.2.2.2.2.1
theorem dX12_begin_94 : decode cX12_begin 94 = .ok (.aload_n 0, 1) := db_X12_begin_83.2.2.2.2.2.2.1
theorem dX12_begin_95 : decode cX12_begin 95 = .ok (.getfield 212, 3) := db_X12_begin_83.2.2.2.2.2.2.2.1
theorem dX12_begin_98 : decode cX12_begin 98 = .ok (.iload 4, 2) := db_X12_begin_83.2.2.2.2.2.2.2.2.1
theorem dX12_begin_100 : decode cX12_begin 100 = .ok (.iconst 0, 1) := db_X12_begin_83.2.2.2.2.2.2.2.2.2.1
theorem dX12_begin_101 : decode cX12_begin 101 = .ok (.iastore, 1) := db_X12_begin_83.2.2.2.2.2.2.2.2.2.2.1
theorem dX12_begin_102 : decode cX12_begin 102 = .ok (.iinc 4 1, 3) := db_X12_begin_83.2.2.2.2.2.2.2.2.2.2.2.1
theorem dX12_begin_105 : decode cX12_begin 105 = .ok (.goto (-26), 3) := db_X12_begin_83.2.2.2.2.2.2.2.2.2.2.2.2.1
theorem dX12_begin_108 : decode cX12_begin 108 = .ok (.iconst 0, 1) := db_X12_begin_83.2.2.2.2.2.2.2.2.2.2.2.2.2.1
theorem dX12_begin_109 : decode cX12_begin 109 = .ok (.istore 4, 2) := db_X12_begin_83.2.2.2.2.2.2.2.2.2.2.2.2.2.2.1
theorem dX12_begin_111 : decode cX12_begin 111 = .ok (.iload 4, 2) := db_X12_begin_83.2.2.2.2.2.2.2.2.2.2.2.2.2.2.2
theorem db_X12_begin_113 : decode cX12_begin 113 = .ok (.bipush 40, 2) ∧ decode cX12_begin 115 = .ok (.if_icmp .ge 17, 3) ∧ decode cX12_begin 118 = .ok (.aload_n 0, 1) ∧ decode cX12_begin 119 = .ok (.getfield 225, 3) ∧ decode cX12_begin 122 = .ok (.iload 4, 2) ∧ decode cX12_begin 124 = .ok (.iconst 0, 1) ∧ decode cX12_begin 125 = .ok (.bastore, 1) ∧ decode cX12_begin 126 = .ok (.iinc 4 1, 3) ∧ decode cX12_begin 129 = .ok (.goto (-18), 3) ∧ decode cX12_begin 132 = .ok (.iconst 0, 1) ∧ decode cX12_begin 133 = .ok (.istore 4, 2) ∧ decode cX12_begin 135 = .ok (.iload 4, 2) ∧ decode cX12_begin 137 = .ok (.bipush 6, 2) ∧ decode cX12_begin 139 = .ok (.if_icmp .ge 35, 3) ∧ decode cX12_begin 142 = .ok (.aload_n 0, 1) ∧ decode cX12_begin 143 = .ok (.getfield 77, 3) := by decide +kernel
theorem dX12_begin_113 : decode cX12_begin 113 = .ok (.bipush 40, 2) := db_X12_begin_113.1
theorem dX12_begin_115 : decode cX12_begin 115 = .ok (.if_icmp .ge 17, 3) := db_X12_begin_113.2.1
theorem dX12_begin_118 : decode cX12_begin 118 = .ok (.aload_n 0, 1) := db_X12_begin_113.2.2.1
theorem dX12_begin_119 : decode cX12_begin 119 = .ok (.getfield 225, 3) := db_X12_begin_113.2.2.2.1
theorem dX12_begin_122 : decode cX12_begin 122 = .ok (.iload 4, 2) := db_X12_begin_113.2.2.2.2.1
theorem dX12_begin_124 : decode cX12_begin 124 = .ok (.iconst 0, 1) := db_X12_begin_113.2.2.2.2.2.1
theorem dX12_begin_125 : decode cX12_begin 125 = .ok (.bastore, 1) := db_X12_begin_113.2.2.2.2.2.2.1
theorem dX12_begin_126 : decode cX12_begin 126 = .ok (.iinc 4 1, 3) := db_X12_begin_113.2.2.2.2.2.2.2.1
theorem dX12_begin_129 : decode cX12_begin 129 = .ok (.goto (-18), 3) := db_X12_begin_113.2.2.2.2.2.2.2.2.1
theorem dX12_begin_132 : decode cX12_begin 132 = .ok (.iconst 0, 1) := db_X12_begin_113.2.2.2.2.2.2.2.2.2.1
theorem dX12_begin_133 : decode cX12_begin 133 = .ok (.istore 4, 2) := db_X12_begin_113.2.2.2.2.2.2.2.2.2.2.1
theorem dX12_begin_135 : decode cX12_begin 135 = .ok (.iload 4, 2) := db_X12_begin_113.2.2.2.2.2.2.2.2.2.2.2.1
theorem dX12_begin_137 : decode cX12_begin 137 = .ok (.bipush 6, 2) := db_X12_begin_113.2.2.2.2.2.2.2.2.2.2.2.2.1
theorem dX12_begin_139 : decode cX12_begin 139 = .ok (.if_icmp .ge 35, 3) := db_X12_begin_113.2.2.2.2.2.2.2.2.2.2.2.2.2.1
theorem dX12_begin_142 : decode cX12_begin 142 = .ok (.aload_n 0, 1) := db_X12_begin_113.2.2.2.2.2.2.2.2.2.2.2.2.2.2.1
theorem dX12_begin_143 : decode cX12_begin 143 = .ok (.getfield 77, 3) := db_X12_begin_113.2.2.2.2.2.2.2.2.2.2.2.2.2.2.2
theorem db_X12_begin_146 : decode cX12_begin 146 = .ok (.iload 4, 2) ∧ decode cX12_begin 148 = .ok (.iload 4, 2) ∧ decode cX12_begin 150 = .ok (.iload_n 1, 1) ∧ decode cX12_begin 151 = .ok (.if_icmp .gt 7, 3) ∧ decode cX12_begin 154 = .ok (.iconst 1, 1) ∧ decode cX12_begin 155 = .ok (.goto 4, 3) ∧ decode cX12_begin 158 = .ok (.iconst 0, 1) ∧ decode cX12_begin 159 = .ok (.bastore, 1) ∧ decode cX12_begin 160 = .ok (.aload_n 0, 1) ∧ decode cX12_begin 161 = .ok (.getfield 80, 3) ∧ decode cX12_begin 164 = .ok (.iload 4, 2) ∧ decode cX12_begin 166 = .ok (.iconst 0, 1) ∧ decode cX12_begin 167 = .ok (.iastore, 1) ∧ decode cX12_begin 168 = .ok (.iinc 4 1, 3) ∧ decode cX12_begin 171 = .ok (.goto (-36), 3) ∧ decode cX12_begin 174 = .ok (.iconst 0, 1) := by decide +kernel
theorem dX12_begin_146 : decode cX12_begin 146 = .ok (.iload 4, 2) := db_X12_begin_146.1
theorem dX12_begin_148 : decode cX12_begin 148 = .ok (.iload 4, 2) := db_X12_begin_146.2.1
theorem dX12_begin_150 : decode cX12_begin 150 = .ok (.iload_n 1, 1) := db_X12_begin_146.2.2.1
theorem dX12_begin_151 : decode cX12_begin 151 = .ok (.if_icmp .gt 7, 3) := db_X12_begin_146.2.2.2.1
theorem dX12_begin_154 : decode cX12_begin 154 = .ok (.iconst 1, 1) := db_X12_begin_146.2.2.2.2.1
theorem dX12_begin_155 : decode cX12_begin 155 = .ok (.goto 4, 3) := db_X12_begin_146.2.2.2.2.2.1
theorem dX12_begin_158 : decode cX12_begin 158 = .ok (.iconst 0, 1) := db_X12_begin_146.2.2.2.2.2.2.1
theorem dX12_begin_159 : decode cX12_begin 159 = .ok (.bastore, 1) := db_X12_begin_146.2.2.2.2.2.2.2.1
theorem dX12_begin_160 : decode cX12_begin 160 = .ok (.aload_n 0, 1) := db_X12_begin_146.2.2.2.2.2.2.2.2.1
theorem dX12_begin_161 : decode cX12_begin 161 = .ok (.getfield 80, 3) := db_X12_begin_146.2.2.2.2.2.2.2.2.2.1
theorem dX12_begin_164 : decode cX12_begin 164 = .ok (.iload 4, 2) := db_X12_begin_146.2.2.2.2.2.2.2.2.2.2.1
theorem dX12_begin_166 : decode cX12_begin 166 = .ok (.iconst 0, 1) := db_X12_begin_146.2.2.2.2.2.2.2.2.2.2.2.1
theorem dX12_begin_167 : decode cX12_begin 167 = .ok (.iastore, 1) := db_X12_begin_146.2.2.2.2.2.2.2.2.2.2.2.2.1
theorem dX12_begin_168 : decode cX12_begin 168 = .ok (.iinc 4 1, 3) := db_X12_begin_146.2.2.2.2.2.2.2.2.2.2.2.2.2.1
theorem dX12_begin_171 : decode cX12_begin 171 = .ok (.goto (-36), 3) := db_X12_begin_146.2.2.2.2.2.2.2.2.2.2.2.2.2.2.1
theorem dX12_begin_174 : decode cX12_begin 174 = .ok (.iconst 0, 1) := db_X12_begin_146.2.2.2.2.2.2.2.2.2.2.2.2.2.2.2
theorem db_X12_begin_175 : decode cX12_begin 175 = .ok (.istore 4, 2) ∧ decode cX12_begin 177 = .ok (.iload 4, 2) ∧ decode cX12_begin 179 = .ok (.iconst 5, 1) ∧ decode cX12_begin 180 = .ok (.if_icmp .ge 25, 3) ∧ decode cX12_begin 183 = .ok (.aload_n 0, 1) ∧ decode cX12_begin 184 = .ok (.getfield 188, 3) ∧ decode cX12_begin 187 = .ok (.iload 4, 2) ∧ decode cX12_begin 189 = .ok (.iconst 1, 1) ∧ decode cX12_begin 190 = .ok (.bastore, 1) ∧ decode cX12_begin 191 = .ok (.aload_n 0, 1) ∧ decode cX12_begin 192 = .ok (.getfield 191, 3) ∧ decode cX12_begin 195 = .ok (.iload 4, 2) ∧ decode cX12_begin 197 = .ok (.iconst 0, 1) ∧ decode cX12_begin 198 = .ok (.iastore, 1) ∧ decode cX12_begin 199 = .ok (.iinc 4 1, 3) ∧ decode cX12_begin 202 = .ok (.goto (-25), 3) := by decide +kernel
theorem dX12_begin_175 : decode cX12_begin 175 = .ok (.istore 4, 2) := db_X12_begin_175.1
theorem dX12_begin_177 : decode cX12_begin 177 = .ok (.iload 4, 2) := db_X12_begin_175.2.1
theorem dX12_begin_179 : decode cX12_begin 179 = .ok (.iconst 5, 1) := db_X12_begin_175.2.2.1
theorem dX12_begin_180 : decode cX12_begin 180 = .ok (.if_icmp .ge 25, 3) := db_X12_begin_175.2.2.2.1
theorem dX12_begin_183 : decode cX12_begin 183 = .ok (.aload_n 0, 1) := db_X12_begin_175.2.2.2.2.1
theorem dX12_begin_184 : decode cX12_begin 184 = .ok (.getfield 188, 3) := db_X12_begin_175.2.2.2.2.2.1
theorem dX12_begin_187 : decode cX12_begin 187 = .ok (.iload 4, 2) := db_X12_begin_175.2.2.2.2.2.2.1
theorem dX12_begin_189 : decode cX12_begin 189 = .ok (.iconst 1, 1) := db_X12_begin_175.2.2.2.2.2.2.2.1
theorem dX12_begin_190 : decode cX12_begin 190 = .ok (.bastore, 1) := db_X12_begin_175.2.2.2.2.2.2.2.2.1
theorem dX12_begin_191 : decode cX12_begin 191 = .ok (.aload_n 0, 1) := db_X12_begin_175.2.2.2.2.2.2.2.2.2.1
theorem dX12_begin_192 : decode cX12_begin 192 = .ok (.getfield 191, 3) := db_X12_begin_175.2.2.2.2.2.2.2.2.2.2.1
theorem dX12_begin_195 : decode cX12_begin 195 = .ok (.iload 4, 2) := db_X12_begin_175.2.2.2.2.2.2.2.2.2.2.2.1
theorem dX12_begin_197 : decode cX12_begin 197 = .ok (.iconst 0, 1) := db_X12_begin_175.2.2.2.2.2.2.2.2.2.2.2.2.1
theorem dX12_begin_198 : decode cX12_begin 198 = .ok (.iastore, 1) := db_X12_begin_175.2.2.2.2.2.2.2.2.2.2.2.2.2.1
theorem dX12_begin_199 : decode cX12_begin 199 = .ok (.iinc 4 1, 3) := db_X12_begin_175.2.2.2.2.2.2.2.2.2.2.2.2.2.2.1
theorem dX12_begin_202 : decode cX12_begin 202 = .ok (.goto (-25), 3) := db_X12_begin_175.2.2.2.2.2.2.2.2.2.2.2.2.2.2.2
theorem db_X12_begin_205 : decode cX12_begin 205 = .ok (.iconst 0, 1) ∧ decode cX12_begin 206 = .ok (.istore 4, 2) ∧ decode cX12_begin 208 = .ok (.iload 4, 2) ∧ decode cX12_begin 210 = .ok (.iload_n 2, 1) ∧ decode cX12_begin 211 = .ok (.if_icmp .ge 58, 3) ∧ decode cX12_begin 214 = .ok (.iconst 0, 1) ∧ decode cX12_begin 215 = .ok (.istore 5, 2) ∧ decode cX12_begin 217 = .ok (.iconst 0, 1) ∧ decode cX12_begin 218 = .ok (.istore 6, 2) ∧ decode cX12_begin 220 = .ok (.iload 6, 2) ∧ decode cX12_begin 222 = .ok (.iload_n 3, 1) ∧ decode cX12_begin 223 = .ok (.if_icmp .ge 23, 3) ∧ decode cX12_begin 226 = .ok (.iload 5, 2) ∧ decode cX12_begin 228 = .ok (.iconst 1, 1) ∧ decode cX12_begin 229 = .ok (.iload 4, 2) ∧ decode cX12_begin 231 = .ok (.iload 6, 2) := by decide +kernel
theorem dX12_begin_205 : decode cX12_begin 205 = .ok (.iconst 0, 1) := db_X12_begin_205.1
theorem dX12_begin_206 : decode cX12_begin 206 = .ok (.istore 4, 2) := db_X12_begin_205.2.1
theorem dX12_begin_208 : decode cX12_begin 208 = .ok (.iload 4, 2) := db_X12_begin_205.2.2.1
theorem dX12_begin_210 : decode cX12_begin 210 = .ok (.iload_n 2, 1) := db_X12_begin_205.2.2.2.1
theorem dX12_begin_211 : decode cX12_begin 211 = .ok (.if_icmp .ge 58, 3) := db_X12_begin_205.2.2.2.2.1
theorem dX12_begin_214 : decode cX12_begin 214 = .ok (.iconst 0, 1) := db_X12_begin_205.2.2.2.2.2.1
theorem dX12_begin_215 : decode cX12_begin 215 = .ok (.istore 5, 2) := db_X12_begin_205.2.2.2.2.2.2.1
theorem dX12_begin_217 : decode cX12_begin 217 = .ok (.iconst 0, 1) := db_X12_begin_205.2.2.2.2.2.2.2.1
theorem dX12_begin_218 : decode cX12_begin 218 = .ok (.istore 6, 2) := db_X12_begin_205.2.2.2.2.2.2.2.2.1
theorem dX12_begin_220 : decode cX12_begin 220 = .ok (.iload 6, 2) := db_X12_begin_205.2.2.2.2.2.2.2.2.2.1
theorem dX12_begin_222 : decode cX12_begin 222 = .ok (.iload_n 3, 1) := db_X12_begin_205.2.2.2.2.2.2.2.2.2.2.1
theorem dX12_begin_223 : decode cX12_begin 223 = .ok (.if_icmp .ge 23, 3) := db_X12_begin_205.2.2.2.2.2.2.2.2.2.2.2.1
theorem dX12_begin_226 : decode cX12_begin 226 = .ok (.iload 5, 2) := db_X12_begin_205.2.2.2.2.2.2.2.2.2.2.2.2.1
theorem dX12_begin_228 : decode cX12_begin 228 = .ok (.iconst 1, 1) := db_X12_begin_205.2.2.2.2.2.2.2.2.2.2.2.2.2.1
theorem dX12_begin_229 : decode cX12_begin 229 = .ok (.iload 4, 2) := db_X12_begin_205.2.2.2.2.2.2.2.2.2.2.2.2.2.2.1
theorem dX12_begin_231 : decode cX12_begin 231 = .ok (.iload 6, 2) := db_X12_begin_205.2.2.2.2.2.2.2.2.2.2.2.2.2.2.2
theorem db_X12_begin_233 : decode cX12_begin 233 = .ok (.iadd, 1) ∧ decode cX12_begin 234 = .ok (.iload_n 1, 1) ∧ decode cX12_begin 235 = .ok (.irem, 1) ∧ decode cX12_begin 236 = .ok (.ishl, 1) ∧ decode cX12_begin 237 = .ok (.ior, 1) ∧ decode cX12_begin 238 = .ok (.istore 5, 2) ∧ decode cX12_begin 240 = .ok (.iinc 6 1, 3) ∧ decode cX12_begin 243 = .ok (.goto (-23), 3) ∧ decode cX12_begin 246 = .ok (.aload_n 0, 1) ∧ decode cX12_begin 247 = .ok (.bipush 20, 2) ∧ decode cX12_begin 249 = .ok (.iload 4, 2) ∧ decode cX12_begin 251 = .ok (.iadd, 1) ∧ decode cX12_begin 252 = .ok (.iconst 1, 1) ∧ decode cX12_begin 253 = .ok (.iload 4, 2) ∧ decode cX12_begin 255 = .ok (.iload_n 1, 1) ∧ decode cX12_begin 256 = .ok (.irem, 1) := by decide +kernel
theorem dX12_begin_233 : decode cX12_begin 233 = .ok (.iadd, 1) := db_X12_begin_233.1
theorem dX12_begin_234 : decode cX12_begin 234 = .ok (.iload_n 1, 1) := db_X12_begin_233.2.1
theorem dX12_begin_235 : decode cX12_begin 235 = .ok (.irem, 1) := db_X12_begin_233.2.2.1
theorem dX12_begin_236 : decode cX12_begin 236 = .ok (.ishl, 1) := db_X12_begin_233.2.2.2.1
theorem dX12_begin_237 : decode cX12_begin 237 = .ok (.ior, 1) := db_X12_begin_233.2.2.2.2.1
theorem dX12_begin_238 : decode cX12_begin 238 = .ok (.istore 5, 2) := db_X12_begin_233.2.2.2.2.2.1
theorem dX12_begin_240 : decode cX12_begin 240 = .ok (.iinc 6 1, 3) := db_X12_begin_233.2.2.2.2.2.2.1
theorem dX12_begin_243 : decode cX12_begin 243 = .ok (.goto (-23), 3) := db_X12_begin_233.2.2.2.2.2.2.2.1
theorem dX12_begin_246 : decode cX12_begin 246 = .ok (.aload_n 0, 1) := db_X12_begin_233.2.2.2.2.2.2.2.2.1
theorem dX12_begin_247 : decode cX12_begin 247 = .ok (.bipush 20, 2) := db_X12_begin_233.2.2.2.2.2.2.2.2.2.1
theorem dX12_begin_249 : decode cX12_begin 249 = .ok (.iload 4, 2) := db_X12_begin_233.2.2.2.2.2.2.2.2.2.2.1
theorem dX12_begin_251 : decode cX12_begin 251 = .ok (.iadd, 1) := db_X12_begin_233.2.2.2.2.2.2.2.2.2.2.2.1
theorem dX12_begin_252 : decode cX12_begin 252 = .ok (.iconst 1, 1) := db_X12_begin_233.2.2.2.2.2.2.2.2.2.2.2.2.1
theorem dX12_begin_253 : decode cX12_begin 253 = .ok (.iload 4, 2) := db_X12_begin_233.2.2.2.2.2.2.2.2.2.2.2.2.2.1
theorem dX12_begin_255 : decode cX12_begin 255 = .ok (.iload_n 1, 1) := db_X12_begin_233.2.2.2.2.2.2.2.2.2.2.2.2.2.2.1
theorem dX12_begin_256 : decode cX12_begin 256 = .ok (.irem, 1) := db_X12_begin_233.2.2.2.2.2.2.2.2.2.2.2.2.2.2.2
theorem db_X12_begin_257 : decode cX12_begin 257 = .ok (.iload 5, 2) ∧ decode cX12_begin 259 = .ok (.iconst 1, 1) ∧ decode cX12_begin 260 = .ok (.invokevirtual 348, 3) ∧ decode cX12_begin 263 = .ok (.iinc 4 1, 3) ∧ decode cX12_begin 266 = .ok (.goto (-58), 3) ∧ decode cX12_begin 269 = .ok (.iconst 0, 1) ∧ decode cX12_begin 270 = .ok (.istore 4, 2) ∧ decode cX12_begin 272 = .ok (.iload 4, 2) ∧ decode cX12_begin 274 = .ok (.iload_n 1, 1) ∧ decode cX12_begin 275 = .ok (.if_icmp .ge 43, 3) ∧ decode cX12_begin 278 = .ok (.iconst 0, 1) ∧ decode cX12_begin 279 = .ok (.istore 5, 2) ∧ decode cX12_begin 281 = .ok (.iload 5, 2) ∧ decode cX12_begin 283 = .ok (.iload_n 2, 1) ∧ decode cX12_begin 284 = .ok (.if_icmp .ge 28, 3) ∧ decode cX12_begin 287 = .ok (.aload_n 0, 1) := by decide +kernel
theorem dX12_begin_257 : decode cX12_begin 257 = .ok (.iload 5, 2) := db_X12_begin_257.1
theorem dX12_begin_259 : decode cX12_begin 259 = .ok (.iconst 1, 1) := db_X12_begin_257.2.1
theorem dX12_begin_260 : decode cX12_begin 260 = .ok (.invokevirtual 348, 3) := db_X12_begin_257.2.2.1
theorem dX12_begin_263 : decode cX12_begin 263 = .ok (.iinc 4 1, 3) := db_X12_begin_257.2.2.2.1
theorem dX12_begin_266 : decode cX12_begin 266 = .ok (.goto (-58), 3) := db_X12_begin_257.2.2.2.2.1
theorem dX12_begin_269 : decode cX12_begin 269 = .ok (.iconst 0, 1) := db_X12_begin_257.2.2.2.2.2.1
theorem dX12_begin_270 : decode cX12_begin 270 = .ok (.istore 4, 2) := db_X12_begin_257.2.2.2.2.2.2.1
theorem dX12_begin_272 : decode cX12_begin 272 = .ok (.iload 4, 2) := db_X12_begin_257.2.2.2.2.2.2.2.1
theorem dX12_begin_274 : decode cX12_begin 274 = .ok (.iload_n 1, 1) := db_X12_begin_257.2.2.2.2.2.2.2.2.1
theorem dX12_begin_275 : decode cX12_begin 275 = .ok (.if_icmp .ge 43, 3) := db_X12_begin_257.2.2.2.2.2.2.2.2.2.1
theorem dX12_begin_278 : decode cX12_begin 278 = .ok (.iconst 0, 1) := db_X12_begin_257.2.2.2.2.2.2.2.2.2.2.1
theorem dX12_begin_279 : decode cX12_begin 279 = .ok (.istore 5, 2) := db_X12_begin_257.2.2.2.2.2.2.2.2.2.2.2.1
theorem dX12_begin_281 : decode cX12_begin 281 = .ok (.iload 5, 2) := db_X12_begin_257.2.2.2.2.2.2.2.2.2.2.2.2.1
theorem dX12_begin_283 : decode cX12_begin 283 = .ok (.iload_n 2, 1) := db_X12_begin_257.2.2.2.2.2.2.2.2.2.2.2.2.2.1
theorem dX12_begin_284 : decode cX12_begin 284 = .ok (.if_icmp .ge 28, 3) := db_X12_begin_257.2.2.2.2.2.2.2.2.2.2.2.2.2.2.1
theorem dX12_begin_287 : decode cX12_begin 287 = .ok (.aload_n 0, 1) := db_X12_begin_257.2.2.2.2.2.2.2.2.2.2.2.2.2.2.2
theorem db_X12_begin_288 : decode cX12_begin 288 = .ok (.iload 4, 2) ∧ decode cX12_begin 290 = .ok (.iload 5, 2) ∧ decode cX12_begin 292 = .ok (.invokevirtual 352, 3) ∧ decode cX12_begin 295 = .ok (.ifCond .eq 11, 3) ∧ decode cX12_begin 298 = .ok (.aload_n 0, 1) ∧ decode cX12_begin 299 = .ok (.iload 4, 2) ∧ decode cX12_begin 301 = .ok (.iload 5, 2) ∧ decode cX12_begin 303 = .ok (.invokevirtual 356, 3) ∧ decode cX12_begin 306 = .ok (.iinc 5 1, 3) ∧ decode cX12_begin 309 = .ok (.goto (-28), 3) ∧ decode cX12_begin 312 = .ok (.iinc 4 1, 3) ∧ decode cX12_begin 315 = .ok (.goto (-43), 3) ∧ decode cX12_begin 318 = .ok (.aload_n 0, 1) ∧ decode cX12_begin 319 = .ok (.bipush 20, 2) ∧ decode cX12_begin 321 = .ok (.invokevirtual 360, 3) ∧ decode cX12_begin 324 = .ok (.return_, 1) := by decide +kernel
theorem dX12_begin_288 : decode cX12_begin 288 = .ok (.iload 4, 2) := db_X12_begin_288.1
theorem dX12_begin_290 : decode cX12_begin 290 = .ok (.iload 5, 2) := db_X12_begin_288.2.1
theorem dX12_begin_292 : decode cX12_begin 292 = .ok (.invokevirtual 352, 3) := db_X12_begin_288.2.2.1
theorem dX12_begin_295 : decode cX12_begin 295 = .ok (.ifCond .eq 11, 3) := db_X12_begin_288.2.2.2.1
theorem dX12_begin_298 : decode cX12_begin 298 = .ok (.aload_n 0, 1) := db_X12_begin_288.2.2.2.2.1
theorem dX12_begin_299 : decode cX12_begin 299 = .ok (.iload 4, 2) := db_X12_begin_288.2.2.2.2.2.1
theorem dX12_begin_301 : decode cX12_begin 301 = .ok (.iload 5, 2) := db_X12_begin_288.2.2.2.2.2.2.1
theorem dX12_begin_303 : decode cX12_begin 303 = .ok (.invokevirtual 356, 3) := db_X12_begin_288.2.2.2.2.2.2.2.1
theorem dX12_begin_306 : decode cX12_begin 306 = .ok (.iinc 5 1, 3) := db_X12_begin_288.2.2.2.2.2.2.2.2.1
theorem dX12_begin_309 : decode cX12_begin 309 = .ok (.goto (-28), 3) := db_X12_begin_288.2.2.2.2.2.2.2.2.2.1
theorem dX12_begin_312 : decode cX12_begin 312 = .ok (.iinc 4 1, 3) := db_X12_begin_288.2.2.2.2.2.2.2.2.2.2.1
theorem dX12_begin_315 : decode cX12_begin 315 = .ok (.goto (-43), 3) := db_X12_begin_288.2.2.2.2.2.2.2.2.2.2.2.1
theorem dX12_begin_318 : decode cX12_begin 318 = .ok (.aload_n 0, 1) := db_X12_begin_288.2.2.2.2.2.2.2.2.2.2.2.2.1
theorem dX12_begin_319 : decode cX12_begin 319 = .ok (.bipush 20, 2) := db_X12_begin_288.2.2.2.2.2.2.2.2.2.2.2.2.2.1
theorem dX12_begin_321 : decode cX12_begin 321 = .ok (.invokevirtual 360, 3) := db_X12_begin_288.2.2.2.2.2.2.2.2.2.2.2.2.2.2.1
theorem dX12_begin_324 : decode cX12_begin 324 = .ok (.return_, 1) := db_X12_begin_288.2.2.2.2.2.2.2.2.2.2.2.2.2.2.2
theorem db_X12_setView_0 : decode cX12_setView 0 = .ok (.aload_n 0, 1) ∧ decode cX12_setView 1 = .ok (.getfield 176, 3) ∧ decode cX12_setView 4 = .ok (.iload_n 1, 1) ∧ decode cX12_setView 5 = .ok (.iload_n 2, 1) ∧ decode cX12_setView 6 = .ok (.iastore, 1) ∧ decode cX12_setView 7 = .ok (.aload_n 0, 1) ∧ decode cX12_setView 8 = .ok (.getfield 179, 3) ∧ decode cX12_setView 11 = .ok (.iload_n 1, 1) ∧ decode cX12_setView 12 = .ok (.iload_n 3, 1) ∧ decode cX12_setView 13 = .ok (.iastore, 1) ∧ decode cX12_setView 14 = .ok (.aload_n 0, 1) ∧ decode cX12_setView 15 = .ok (.getfield 182, 3) ∧ decode cX12_setView 18 = .ok (.iload_n 1, 1) ∧ decode cX12_setView 19 = .ok (.iload 4, 2) ∧ decode cX12_setView 21 = .ok (.iastore, 1) ∧ decode cX12_setView 22 = .ok (.aload_n 0, 1) := by decide +kernel
theorem dX12_setView_0 : decode cX12_setView 0 = .ok (.aload_n 0, 1) := db_X12_setView_0.1
theorem dX12_setView_1 : decode cX12_setView 1 = .ok (.getfield 176, 3) := db_X12_setView_0.2.1
theorem dX12_setView_4 : decode cX12_setView 4 = .ok (.iload_n 1, 1) := db_X12_setView_0.2.2.1
theorem dX12_setView_5 : decode cX12_setView 5 = .ok (.iload_n 2, 1) := db_X12_setView_0.2.2.2.1
theorem dX12_setView_6 : decode cX12_setView 6 = .ok (.iastore, 1) := db_X12_setView_0.2.2.2.2.1
theorem dX12_setView_7 : decode cX12_setView 7 = .ok (.aload_n 0, 1) := db_X12_setView_0.2.2.2.2.2.1
theorem dX12_setView_8 : decode cX12_setView 8 = .ok (.getfield 179, 3) := db_X12_setView_0.2.2.2.2.2.2.1
theorem dX12_setView_11 : decode cX12_setView 11 = .ok (.iload_n 1, 1) := db_X12_setView_0.2.2.2.2.2.2.2.1
theorem dX12_setView_12 : decode cX12_setView 12 = .ok (.iload_n 3, 1) := db_X12_setView_0.2.2.2.2.2.2.2.2.1
theorem dX12_setView_13 : decode cX12_setView 13 = .ok (.iastore, 1) := db_X12_setView_0.2.2.2.2.2.2.2.2.2.1
theorem dX12_setView_14 : decode cX12_setView 14 = .ok (.aload_n 0, 1) := db_X12_setView_0.2.2.2.2.2.2.2.2.2.2.1
theorem dX12_setView_15 : decode cX12_setView 15 = .ok (.getfield 182, 3) := db_X12_setView_0.2.2.2.2.2.2.2.2.2.2.2.1
theorem dX12_setView_18 : decode cX12_setView 18 = .ok (.iload_n 1, 1) := db_X12_setView_0.2.2.2.2.2.2.2.2.2.2.2.2.1
theorem dX12_setView_19 : decode cX12_setView 19 = .ok (.iload 4, 2) := db_X12_setView_0.2.2.2.2.2.2.2.2.2.2.2.2.2.1
theorem dX12_setView_21 : decode cX12_setView 21 = .ok (.iastore, 1) := db_X12_setView_0.2.2.2.2.2.2.2.2.2.2.2.2.2.2.1
theorem dX12_setView_22 : decode cX12_setView 22 = .ok (.aload_n 0, 1) := db_X12_setView_0.2.2.2.2.2.2.2.2.2.2.2.2.2.2.2
theorem db_X12_setView_23 : decode cX12_setView 23 = .ok (.getfield 185, 3) ∧ decode cX12_setView 26 = .ok (.iload_n 1, 1) ∧ decode cX12_setView 27 = .ok (.iload 5, 2) ∧ decode cX12_setView 29 = .ok (.iastore, 1) ∧ decode cX12_setView 30 = .ok (.return_, 1) := by decide +kernel
theorem dX12_setView_23 : decode cX12_setView 23 = .ok (.getfield 185, 3) := db_X12_setView_23.1
theorem dX12_setView_26 : decode cX12_setView 26 = .ok (.iload_n 1, 1) := db_X12_setView_23.2.1
theorem dX12_setView_27 : decode cX12_setView 27 = .ok (.iload 5, 2) := db_X12_setView_23.2.2.1
theorem dX12_setView_29 : decode cX12_setView 29 = .ok (.iastore, 1) := db_X12_setView_23.2.2.2.1
theorem dX12_setView_30 : decode cX12_setView 30 = .ok (.return_, 1) := db_X12_setView_23.2.2.2.2
theorem db_X12_beginCopy_0 : decode cX12_beginCopy 0 = .ok (.aload_n 0, 1) ∧ decode cX12_beginCopy 1 = .ok (.iload_n 1, 1) ∧ decode cX12_beginCopy 2 = .ok (.iload_n 2, 1) ∧ decode cX12_beginCopy 3 = .ok (.invokevirtual 364, 3) ∧ decode cX12_beginCopy 6 = .ok (.istore_n 3, 1) ∧ decode cX12_beginCopy 7 = .ok (.aload_n 0, 1) ∧ decode cX12_beginCopy 8 = .ok (.getfield 125, 3) ∧ decode cX12_beginCopy 11 = .ok (.iload_n 3, 1) ∧ decode cX12_beginCopy 12 = .ok (.iconst 1, 1) ∧ decode cX12_beginCopy 13 = .ok (.iastore, 1) ∧ decode cX12_beginCopy 14 = .ok (.aload_n 0, 1) ∧ decode cX12_beginCopy 15 = .ok (.getfield 128, 3) ∧ decode cX12_beginCopy 18 = .ok (.iload_n 3, 1) ∧ decode cX12_beginCopy 19 = .ok (.iconst 0, 1) ∧ decode cX12_beginCopy 20 = .ok (.iastore, 1) ∧ decode cX12_beginCopy 21 = .ok (.aload_n 0, 1) := by decide +kernel
theorem dX12_beginCopy_0 : decode cX12_beginCopy 0 = .ok (.aload_n 0, 1) := db_X12_beginCopy_0.1
theorem dX12_beginCopy_1 : decode cX12_beginCopy 1 = .ok (.iload_n 1, 1) := db_X12_beginCopy_0.2.1
theorem dX12_beginCopy_2 : decode cX12_beginCopy 2 = .ok (.iload_n 2, 1) := db_X12_beginCopy_0.2.2.1
theorem dX12_beginCopy_3 : decode cX12_beginCopy 3 = .ok (.invokevirtual 364, 3) := db_X12_beginCopy_0.2.2.2.1
theorem dX12_beginCopy_6 : decode cX12_beginCopy 6 = .ok (.istore_n 3, 1) := db_X12_beginCopy_0.2.2.2.2.1
theorem dX12_beginCopy_7 : decode cX12_beginCopy 7 = .ok (.aload_n 0, 1) := db_X12_beginCopy_0.2.2.2.2.2.1
theorem dX12_beginCopy_8 : decode cX12_beginCopy 8 = .ok (.getfield 125, 3) := db_X12_beginCopy_0.2.2.2.2.2.2.1
theorem dX12_beginCopy_11 : decode cX12_beginCopy 11 = .ok (.iload_n 3, 1) := db_X12_beginCopy_0.2.2.2.2.2.2.2.1
theorem dX12_beginCopy_12 : decode cX12_beginCopy 12 = .ok (.iconst 1, 1) := db_X12_beginCopy_0.2.2.2.2.2.2.2.2.1
theorem dX12_beginCopy_13 : decode cX12_beginCopy 13 = .ok (.iastore, 1) := db_X12_beginCopy_0.2.2.2.2.2.2.2.2.2.1
theorem dX12_beginCopy_14 : decode cX12_beginCopy 14 = .ok (.aload_n 0, 1) := db_X12_beginCopy_0.2.2.2.2.2.2.2.2.2.2.1
theorem dX12_beginCopy_15 : decode cX12_beginCopy 15 = .ok (.getfield 128, 3) := db_X12_beginCopy_0.2.2.2.2.2.2.2.2.2.2.2.1
theorem dX12_beginCopy_18 : decode cX12_beginCopy 18 = .ok (.iload_n 3, 1) := db_X12_beginCopy_0.2.2.2.2.2.2.2.2.2.2.2.2.1
theorem dX12_beginCopy_19 : decode cX12_beginCopy 19 = .ok (.iconst 0, 1) := db_X12_beginCopy_0.2.2.2.2.2.2.2.2.2.2.2.2.2.1
theorem dX12_beginCopy_20 : decode cX12_beginCopy 20 = .ok (.iastore, 1) := db_X12_beginCopy_0.2.2.2.2.2.2.2.2.2.2.2.2.2.2.1
theorem dX12_beginCopy_21 : decode cX12_beginCopy 21 = .ok (.aload_n 0, 1) := db_X12_beginCopy_0.2.2.2.2.2.2.2.2.2.2.2.2.2.2.2
theorem db_X12_beginCopy_22 : decode cX12_beginCopy 22 = .ok (.getfield 131, 3) ∧ decode cX12_beginCopy 25 = .ok (.iload_n 3, 1) ∧ decode cX12_beginCopy 26 = .ok (.iconst 0, 1) ∧ decode cX12_beginCopy 27 = .ok (.iastore, 1) ∧ decode cX12_beginCopy 28 = .ok (.aload_n 0, 1) ∧ decode cX12_beginCopy 29 = .ok (.getfield 134, 3) ∧ decode cX12_beginCopy 32 = .ok (.iload_n 3, 1) ∧ decode cX12_beginCopy 33 = .ok (.iconst 0, 1) ∧ decode cX12_beginCopy 34 = .ok (.iastore, 1) ∧ decode cX12_beginCopy 35 = .ok (.aload_n 0, 1) ∧ decode cX12_beginCopy 36 = .ok (.getfield 137, 3) ∧ decode cX12_beginCopy 39 = .ok (.iload_n 3, 1) ∧ decode cX12_beginCopy 40 = .ok (.iconst 0, 1) ∧ decode cX12_beginCopy 41 = .ok (.iastore, 1) ∧ decode cX12_beginCopy 42 = .ok (.aload_n 0, 1) ∧ decode cX12_beginCopy 43 = .ok (.getfield 143, 3) := by decide +kernel
theorem dX12_beginCopy_22 : decode cX12_beginCopy 22 = .ok (.getfield 131, 3) := db_X12_beginCopy_22.1
theorem dX12_beginCopy_25 : decode cX12_beginCopy 25 = .ok (.iload_n 3, 1) := db_X12_beginCopy_22.2.1
theorem dX12_beginCopy_26 : decode cX12_beginCopy 26 = .ok (.iconst 0, 1) := db_X12_beginCopy_22.2.2.1
theorem dX12_beginCopy_27 : decode cX12_beginCopy 27 = .ok (.iastore, 1) := db_X12_beginCopy_22.2.2.2.1
theorem dX12_beginCopy_28 : decode cX12_beginCopy 28 = .ok (.aload_n 0, 1) := db_X12_beginCopy_22.2.2.2.2.1
theorem dX12_beginCopy_29 : decode cX12_beginCopy 29 = .ok (.getfield 134, 3) := db_X12_beginCopy_22.2.2.2.2.2.1
theorem dX12_beginCopy_32 : decode cX12_beginCopy 32 = .ok (.iload_n 3, 1) := db_X12_beginCopy_22.2.2.2.2.2.2.1
theorem dX12_beginCopy_33 : decode cX12_beginCopy 33 = .ok (.iconst 0, 1) := db_X12_beginCopy_22.2.2.2.2.2.2.2.1
theorem dX12_beginCopy_34 : decode cX12_beginCopy 34 = .ok (.iastore, 1) := db_X12_beginCopy_22.2.2.2.2.2.2.2.2.1
theorem dX12_beginCopy_35 : decode cX12_beginCopy 35 = .ok (.aload_n 0, 1) := db_X12_beginCopy_22.2.2.2.2.2.2.2.2.2.1
theorem dX12_beginCopy_36 : decode cX12_beginCopy 36 = .ok (.getfield 137, 3) := db_X12_beginCopy_22.2.2.2.2.2.2.2.2.2.2.1
theorem dX12_beginCopy_39 : decode cX12_beginCopy 39 = .ok (.iload_n 3, 1) := db_X12_beginCopy_22.2.2.2.2.2.2.2.2.2.2.2.1
theorem dX12_beginCopy_40 : decode cX12_beginCopy 40 = .ok (.iconst 0, 1) := db_X12_beginCopy_22.2.2.2.2.2.2.2.2.2.2.2.2.1
theorem dX12_beginCopy_41 : decode cX12_beginCopy 41 = .ok (.iastore, 1) := db_X12_beginCopy_22.2.2.2.2.2.2.2.2.2.2.2.2.2.1
theorem dX12_beginCopy_42 : decode cX12_beginCopy 42 = .ok (.aload_n 0, 1) := db_X12_beginCopy_22.2.2.2.2.2.2.2.2.2.2.2.2.2.2.1
theorem dX12_beginCopy_43 : decode cX12_beginCopy 43 = .ok (.getfield 143, 3) := db_X12_beginCopy_22.2.2.2.2.2.2.2.2.2.2.2.2.2.2.2
theorem db_X12_beginCopy_46 : decode cX12_beginCopy 46 = .ok (.iload_n 3, 1) ∧ decode cX12_beginCopy 47 = .ok (.iconst 0, 1) ∧ decode cX12_beginCopy 48 = .ok (.iastore, 1) ∧ decode cX12_beginCopy 49 = .ok (.aload_n 0, 1) ∧ decode cX12_beginCopy 50 = .ok (.getfield 146, 3) ∧ decode cX12_beginCopy 53 = .ok (.sipush 700, 3) ∧ decode cX12_beginCopy 56 = .ok (.iload_n 3, 1) ∧ decode cX12_beginCopy 57 = .ok (.imul, 1) ∧ decode cX12_beginCopy 58 = .ok (.iconst 0, 1) ∧ decode cX12_beginCopy 59 = .ok (.iastore, 1) ∧ decode cX12_beginCopy 60 = .ok (.aload_n 0, 1) ∧ decode cX12_beginCopy 61 = .ok (.getfield 149, 3) ∧ decode cX12_beginCopy 64 = .ok (.iload_n 3, 1) ∧ decode cX12_beginCopy 65 = .ok (.iconst 0, 1) ∧ decode cX12_beginCopy 66 = .ok (.iastore, 1) ∧ decode cX12_beginCopy 67 = .ok (.aload_n 0, 1) := by decide +kernel
theorem dX12_beginCopy_46 : decode cX12_beginCopy 46 = .ok (.iload_n 3, 1) := db_X12_beginCopy_46.1
theorem dX12_beginCopy_47 : decode cX12_beginCopy 47 = .ok (.iconst 0, 1) := db_X12_beginCopy_46.2.1
theorem dX12_beginCopy_48 : decode cX12_beginCopy 48 = .ok (.iastore, 1) := db_X12_beginCopy_46.2.2.1
theorem dX12_beginCopy_49 : decode cX12_beginCopy 49 = .ok (.aload_n 0, 1) := db_X12_beginCopy_46.2.2.2.1
theorem dX12_beginCopy_50 : decode cX12_beginCopy 50 = .ok (.getfield 146, 3) := db_X12_beginCopy_46.2.2.2.2.1
theorem dX12_beginCopy_53 : decode cX12_beginCopy 53 = .ok (.sipush 700, 3) := db_X12_beginCopy_46.2.2.2.2.2.1
theorem dX12_beginCopy_56 : decode cX12_beginCopy 56 = .ok (.iload_n 3, 1) := db_X12_beginCopy_46.2.2.2.2.2.2.1
theorem dX12_beginCopy_57 : decode cX12_beginCopy 57 = .ok (.imul, 1) := db_X12_beginCopy_46.2.2.2.2.2.2.2.1
theorem dX12_beginCopy_58 : decode cX12_beginCopy 58 = .ok (.iconst 0, 1) := db_X12_beginCopy_46.2.2.2.2.2.2.2.2.1
theorem dX12_beginCopy_59 : decode cX12_beginCopy 59 = .ok (.iastore, 1) := db_X12_beginCopy_46.2.2.2.2.2.2.2.2.2.1
theorem dX12_beginCopy_60 : decode cX12_beginCopy 60 = .ok (.aload_n 0, 1) := db_X12_beginCopy_46.2.2.2.2.2.2.2.2.2.2.1
theorem dX12_beginCopy_61 : decode cX12_beginCopy 61 = .ok (.getfield 149, 3) := db_X12_beginCopy_46.2.2.2.2.2.2.2.2.2.2.2.1
theorem dX12_beginCopy_64 : decode cX12_beginCopy 64 = .ok (.iload_n 3, 1) := db_X12_beginCopy_46.2.2.2.2.2.2.2.2.2.2.2.2.1
theorem dX12_beginCopy_65 : decode cX12_beginCopy 65 = .ok (.iconst 0, 1) := db_X12_beginCopy_46.2.2.2.2.2.2.2.2.2.2.2.2.2.1
theorem dX12_beginCopy_66 : decode cX12_beginCopy 66 = .ok (.iastore, 1) := db_X12_beginCopy_46.2.2.2.2.2.2.2.2.2.2.2.2.2.2.1
theorem dX12_beginCopy_67 : decode cX12_beginCopy 67 = .ok (.aload_n 0, 1) := db_X12_beginCopy_46.2.2.2.2.2.2.2.2.2.2.2.2.2.2.2
theorem db_X12_beginCopy_68 : decode cX12_beginCopy 68 = .ok (.getfield 194, 3) ∧ decode cX12_beginCopy 71 = .ok (.iload_n 3, 1) ∧ decode cX12_beginCopy 72 = .ok (.iconst 0, 1) ∧ decode cX12_beginCopy 73 = .ok (.iastore, 1) ∧ decode cX12_beginCopy 74 = .ok (.aload_n 0, 1) ∧ decode cX12_beginCopy 75 = .ok (.iload_n 3, 1) ∧ decode cX12_beginCopy 76 = .ok (.iconst 1, 1) ∧ decode cX12_beginCopy 77 = .ok (.iload_n 2, 1) ∧ decode cX12_beginCopy 78 = .ok (.aload_n 0, 1) ∧ decode cX12_beginCopy 79 = .ok (.getfield 321, 3) ∧ decode cX12_beginCopy 82 = .ok (.irem, 1) ∧ decode cX12_beginCopy 83 = .ok (.aload_n 0, 1) ∧ decode cX12_beginCopy 84 = .ok (.getfield 182, 3) ∧ decode cX12_beginCopy 87 = .ok (.bipush 20, 2) ∧ decode cX12_beginCopy 89 = .ok (.iload_n 2, 1) ∧ decode cX12_beginCopy 90 = .ok (.iadd, 1) := by decide +kernel
theorem dX12_beginCopy_68 : decode cX12_beginCopy 68 = .ok (.getfield 194, 3) := db_X12_beginCopy_68.1
theorem dX12_beginCopy_71 : decode cX12_beginCopy 71 = .ok (.iload_n 3, 1) := db_X12_beginCopy_68.2.1
theorem dX12_beginCopy_72 : decode cX12_beginCopy 72 = .ok (.iconst 0, 1) := db_X12_beginCopy_68.2.2.1
theorem dX12_beginCopy_73 : decode cX12_beginCopy 73 = .ok (.iastore, 1) := db_X12_beginCopy_68.2.2.2.1
theorem dX12_beginCopy_74 : decode cX12_beginCopy 74 = .ok (.aload_n 0, 1) := db_X12_beginCopy_68.2.2.2.2.1
theorem dX12_beginCopy_75 : decode cX12_beginCopy 75 = .ok (.iload_n 3, 1) := db_X12_beginCopy_68.2.2.2.2.2.1
theorem dX12_beginCopy_76 : decode cX12_beginCopy 76 = .ok (.iconst 1, 1) := db_X12_beginCopy_68.2.2.2.2.2.2.1
theorem dX12_beginCopy_77 : decode cX12_beginCopy 77 = .ok (.iload_n 2, 1) := db_X12_beginCopy_68.2.2.2.2.2.2.2.1
theorem dX12_beginCopy_78 : decode cX12_beginCopy 78 = .ok (.aload_n 0, 1) := db_X12_beginCopy_68.2.2.2.2.2.2.2.2.1
theorem dX12_beginCopy_79 : decode cX12_beginCopy 79 = .ok (.getfield 321, 3) := db_X12_beginCopy_68.2.2.2.2.2.2.2.2.2.1
theorem dX12_beginCopy_82 : decode cX12_beginCopy 82 = .ok (.irem, 1) := db_X12_beginCopy_68.2.2.2.2.2.2.2.2.2.2.1
theorem dX12_beginCopy_83 : decode cX12_beginCopy 83 = .ok (.aload_n 0, 1) := db_X12_beginCopy_68.2.2.2.2.2.2.2.2.2.2.2.1
theorem dX12_beginCopy_84 : decode cX12_beginCopy 84 = .ok (.getfield 182, 3) := db_X12_beginCopy_68.2.2.2.2.2.2.2.2.2.2.2.2.1
theorem dX12_beginCopy_87 : decode cX12_beginCopy 87 = .ok (.bipush 20, 2) := db_X12_beginCopy_68.2.2.2.2.2.2.2.2.2.2.2.2.2.1
theorem dX12_beginCopy_89 : decode cX12_beginCopy 89 = .ok (.iload_n 2, 1) := db_X12_beginCopy_68.2.2.2.2.2.2.2.2.2.2.2.2.2.2.1
theorem dX12_beginCopy_90 : decode cX12_beginCopy 90 = .ok (.iadd, 1) := db_X12_beginCopy_68.2.2.2.2.2.2.2.2.2.2.2.2.2.2.2
theorem db_X12_beginCopy_91 : decode cX12_beginCopy 91 = .ok (.iaload, 1) ∧ decode cX12_beginCopy 92 = .ok (.iconst 1, 1) ∧ decode cX12_beginCopy 93 = .ok (.invokevirtual 348, 3) ∧ decode cX12_beginCopy 96 = .ok (.aload_n 0, 1) ∧ decode cX12_beginCopy 97 = .ok (.getfield 140, 3) ∧ decode cX12_beginCopy 100 = .ok (.iload_n 3, 1) ∧ decode cX12_beginCopy 101 = .ok (.iload_n 2, 1) ∧ decode cX12_beginCopy 102 = .ok (.aload_n 0, 1) ∧ decode cX12_beginCopy 103 = .ok (.getfield 321, 3) ∧ decode cX12_beginCopy 106 = .ok (.irem, 1) ∧ decode cX12_beginCopy 107 = .ok (.iload_n 1, 1) ∧ decode cX12_beginCopy 108 = .ok (.if_icmp .ne 7, 3) ∧ decode cX12_beginCopy 111 = .ok (.iconst 2, 1) ∧ decode cX12_beginCopy 112 = .ok (.goto 4, 3) ∧ decode cX12_beginCopy 115 = .ok (.iconst 1, 1) ∧ decode cX12_beginCopy 116 = .ok (.iastore, 1) := by decide +kernel
theorem dX12_beginCopy_91 : decode cX12_beginCopy 91 = .ok (.iaload, 1) := db_X12_beginCopy_91.1
theorem dX12_beginCopy_92 : decode cX12_beginCopy 92 = .ok (.iconst 1, 1) := db_X12_beginCopy_91.2.1
theorem dX12_beginCopy_93 : decode cX12_beginCopy 93 = .ok (.invokevirtual 348, 3) := db_X12_beginCopy_91.2.2.1
theorem dX12_beginCopy_96 : decode cX12_beginCopy 96 = .ok (.aload_n 0, 1) := db_X12_beginCopy_91.2.2.2.1
theorem dX12_beginCopy_97 : decode cX12_beginCopy 97 = .ok (.getfield 140, 3) := db_X12_beginCopy_91.2.2.2.2.1
theorem dX12_beginCopy_100 : decode cX12_beginCopy 100 = .ok (.iload_n 3, 1) := db_X12_beginCopy_91.2.2.2.2.2.1
theorem dX12_beginCopy_101 : decode cX12_beginCopy 101 = .ok (.iload_n 2, 1) := db_X12_beginCopy_91.2.2.2.2.2.2.1
theorem dX12_beginCopy_102 : decode cX12_beginCopy 102 = .ok (.aload_n 0, 1) := db_X12_beginCopy_91.2.2.2.2.2.2.2.1
theorem dX12_beginCopy_103 : decode cX12_beginCopy 103 = .ok (.getfield 321, 3) := db_X12_beginCopy_91.2.2.2.2.2.2.2.2.1
theorem dX12_beginCopy_106 : decode cX12_beginCopy 106 = .ok (.irem, 1) := db_X12_beginCopy_91.2.2.2.2.2.2.2.2.2.1
theorem dX12_beginCopy_107 : decode cX12_beginCopy 107 = .ok (.iload_n 1, 1) := db_X12_beginCopy_91.2.2.2.2.2.2.2.2.2.2.1
theorem dX12_beginCopy_108 : decode cX12_beginCopy 108 = .ok (.if_icmp .ne 7, 3) := db_X12_beginCopy_91.2.2.2.2.2.2.2.2.2.2.2.1
theorem dX12_beginCopy_111 : decode cX12_beginCopy 111 = .ok (.iconst 2, 1) := db_X12_beginCopy_91.2.2.2.2.2.2.2.2.2.2.2.2.1
theorem dX12_beginCopy_112 : decode cX12_beginCopy 112 = .ok (.goto 4, 3) := db_X12_beginCopy_91.2.2.2.2.2.2.2.2.2.2.2.2.2.1
theorem dX12_beginCopy_115 : decode cX12_beginCopy 115 = .ok (.iconst 1, 1) := db_X12_beginCopy_91.2.2.2.2.2.2.2.2.2.2.2.2.2.2.1
theorem dX12_beginCopy_116 : decode cX12_beginCopy 116 = .ok (.iastore, 1) := db_X12_beginCopy_91.2.2.2.2.2.2.2.2.2.2.2.2.2.2.2
theorem db_X12_beginCopy_117 : decode cX12_beginCopy 117 = .ok (.iconst 0, 1) ∧ decode cX12_beginCopy 118 = .ok (.istore 4, 2) ∧ decode cX12_beginCopy 120 = .ok (.iload 4, 2) ∧ decode cX12_beginCopy 122 = .ok (.iconst 5, 1) ∧ decode cX12_beginCopy 123 = .ok (.if_icmp .ge 85, 3) ∧ decode cX12_beginCopy 126 = .ok (.iconst 5, 1) ∧ decode cX12_beginCopy 127 = .ok (.iload_n 3, 1) ∧ decode cX12_beginCopy 128 = .ok (.imul, 1) ∧ decode cX12_beginCopy 129 = .ok (.iload 4, 2) ∧ decode cX12_beginCopy 131 = .ok (.iadd, 1) ∧ decode cX12_beginCopy 132 = .ok (.istore 5, 2) ∧ decode cX12_beginCopy 134 = .ok (.aload_n 0, 1) ∧ decode cX12_beginCopy 135 = .ok (.getfield 158, 3) ∧ decode cX12_beginCopy 138 = .ok (.iload 5, 2) ∧ decode cX12_beginCopy 140 = .ok (.iload 4, 2) ∧ decode cX12_beginCopy 142 = .ok (.iload_n 1, 1) := by decide +kernel
theorem dX12_beginCopy_117 : decode cX12_beginCopy 117 = .ok (.iconst 0, 1) := db_X12_beginCopy_117.1
theorem dX12_beginCopy_118 : decode cX12_beginCopy 118 = .ok (.istore 4, 2) := db_X12_beginCopy_117.2.1
theorem dX12_beginCopy_120 : decode cX12_beginCopy 120 = .ok (.iload 4, 2) := db_X12_beginCopy_117.2.2.1
theorem dX12_beginCopy_122 : decode cX12_beginCopy 122 = .ok (.iconst 5, 1) := db_X12_beginCopy_117.2.2.2.1
theorem dX12_beginCopy_123 : decode cX12_beginCopy 123 = .ok (.if_icmp .ge 85, 3) := db_X12_beginCopy_117.2.2.2.2.1
theorem dX12_beginCopy_126 : decode cX12_beginCopy 126 = .ok (.iconst 5, 1) := db_X12_beginCopy_117.2.2.2.2.2.1
theorem dX12_beginCopy_127 : decode cX12_beginCopy 127 = .ok (.iload_n 3, 1) := db_X12_beginCopy_117.2.2.2.2.2.2.1
theorem dX12_beginCopy_128 : decode cX12_beginCopy 128 = .ok (.imul, 1) := db_X12_beginCopy_117.2.2.2.2.2.2.2.1
theorem dX12_beginCopy_129 : decode cX12_beginCopy 129 = .ok (.iload 4, 2) := db_X12_beginCopy_117.2.2.2.2.2.2.2.2.1
theorem dX12_beginCopy_131 : decode cX12_beginCopy 131 = .ok (.iadd, 1) := db_X12_beginCopy_117.2.2.2.2.2.2.2.2.2.1
theorem dX12_beginCopy_132 : decode cX12_beginCopy 132 = .ok (.istore 5, 2) := db_X12_beginCopy_117.2.2.2.2.2.2.2.2.2.2.1
theorem dX12_beginCopy_134 : decode cX12_beginCopy 134 = .ok (.aload_n 0, 1) := db_X12_beginCopy_117.2.2.2.2.2.2.2.2.2.2.2.1
theorem dX12_beginCopy_135 : decode cX12_beginCopy 135 = .ok (.getfield 158, 3) := db_X12_beginCopy_117.2.2.2.2.2.2.2.2.2.2.2.2.1
theorem dX12_beginCopy_138 : decode cX12_beginCopy 138 = .ok (.iload 5, 2) := db_X12_beginCopy_117.2.2.2.2.2.2.2.2.2.2.2.2.2.1
theorem dX12_beginCopy_140 : decode cX12_beginCopy 140 = .ok (.iload 4, 2) := db_X12_beginCopy_117.2.2.2.2.2.2.2.2.2.2.2.2.2.2.1
theorem dX12_beginCopy_142 : decode cX12_beginCopy 142 = .ok (.iload_n 1, 1) := db_X12_beginCopy_117.2.2.2.2.2.2.2.2.2.2.2.2.2.2.2
theorem db_X12_beginCopy_143 : decode cX12_beginCopy 143 = .ok (.if_icmp .eq 17, 3) ∧ decode cX12_beginCopy 146 = .ok (.aload_n 0, 1) ∧ decode cX12_beginCopy 147 = .ok (.iload 4, 2) ∧ decode cX12_beginCopy 149 = .ok (.iload_n 2, 1) ∧ decode cX12_beginCopy 150 = .ok (.invokevirtual 352, 3) ∧ decode cX12_beginCopy 153 = .ok (.ifCond .eq 7, 3) ∧ decode cX12_beginCopy 156 = .ok (.iconst 3, 1) ∧ decode cX12_beginCopy 157 = .ok (.goto 4, 3) ∧ decode cX12_beginCopy 160 = .ok (.iconst 0, 1) ∧ decode cX12_beginCopy 161 = .ok (.iastore, 1) ∧ decode cX12_beginCopy 162 = .ok (.aload_n 0, 1) ∧ decode cX12_beginCopy 163 = .ok (.getfield 161, 3) ∧ decode cX12_beginCopy 166 = .ok (.iload 5, 2) ∧ decode cX12_beginCopy 168 = .ok (.iconst 0, 1) ∧ decode cX12_beginCopy 169 = .ok (.iastore, 1) ∧ decode cX12_beginCopy 170 = .ok (.aload_n 0, 1) := by decide +kernel
theorem dX12_beginCopy_143 : decode cX12_beginCopy 143 = .ok (.if_icmp .eq 17, 3) := db_X12_beginCopy_143.1
theorem dX12_beginCopy_146 : decode cX12_beginCopy 146 = .ok (.aload_n 0, 1) := db_X12_beginCopy_143.2.1
theorem dX12_beginCopy_147 : decode cX12_beginCopy 147 = .ok (.iload 4, 2) := db_X12_beginCopy_143.2.2.1
theorem dX12_beginCopy_149 : decode cX12_beginCopy 149 = .ok (.iload_n 2, 1) := db_X12_beginCopy_143.2.2.2.1
theorem dX12_beginCopy_150 : decode cX12_beginCopy 150 = .ok (.invokevirtual 352, 3) := db_X12_beginCopy_143.2.2.2.2.1
theorem dX12_beginCopy_153 : decode cX12_beginCopy 153 = .ok (.ifCond .eq 7, 3) := db_X12_beginCopy_143.2.2.2.2.2.1
theorem dX12_beginCopy_156 : decode cX12_beginCopy 156 = .ok (.iconst 3, 1) := db_X12_beginCopy_143.2.2.2.2.2.2.1
theorem dX12_beginCopy_157 : decode cX12_beginCopy 157 = .ok (.goto 4, 3) := db_X12_beginCopy_143.2.2.2.2.2.2.2.1
theorem dX12_beginCopy_160 : decode cX12_beginCopy 160 = .ok (.iconst 0, 1) := db_X12_beginCopy_143.2.2.2.2.2.2.2.2.1
theorem dX12_beginCopy_161 : decode cX12_beginCopy 161 = .ok (.iastore, 1) := db_X12_beginCopy_143.2.2.2.2.2.2.2.2.2.1
theorem dX12_beginCopy_162 : decode cX12_beginCopy 162 = .ok (.aload_n 0, 1) := db_X12_beginCopy_143.2.2.2.2.2.2.2.2.2.2.1
theorem dX12_beginCopy_163 : decode cX12_beginCopy 163 = .ok (.getfield 161, 3) := db_X12_beginCopy_143.2.2.2.2.2.2.2.2.2.2.2.1
theorem dX12_beginCopy_166 : decode cX12_beginCopy 166 = .ok (.iload 5, 2) := db_X12_beginCopy_143.2.2.2.2.2.2.2.2.2.2.2.2.1
theorem dX12_beginCopy_168 : decode cX12_beginCopy 168 = .ok (.iconst 0, 1) := db_X12_beginCopy_143.2.2.2.2.2.2.2.2.2.2.2.2.2.1
theorem dX12_beginCopy_169 : decode cX12_beginCopy 169 = .ok (.iastore, 1) := db_X12_beginCopy_143.2.2.2.2.2.2.2.2.2.2.2.2.2.2.1
theorem dX12_beginCopy_170 : decode cX12_beginCopy 170 = .ok (.aload_n 0, 1) := db_X12_beginCopy_143.2.2.2.2.2.2.2.2.2.2.2.2.2.2.2
theorem db_X12_beginCopy_171 : decode cX12_beginCopy 171 = .ok (.getfield 164, 3) ∧ decode cX12_beginCopy 174 = .ok (.iload 5, 2) ∧ decode cX12_beginCopy 176 = .ok (.iconst 0, 1) ∧ decode cX12_beginCopy 177 = .ok (.iastore, 1) ∧ decode cX12_beginCopy 178 = .ok (.aload_n 0, 1) ∧ decode cX12_beginCopy 179 = .ok (.getfield 167, 3) ∧ decode cX12_beginCopy 182 = .ok (.iload 5, 2) ∧ decode cX12_beginCopy 184 = .ok (.iconst 0, 1) ∧ decode cX12_beginCopy 185 = .ok (.iastore, 1) ∧ decode cX12_beginCopy 186 = .ok (.aload_n 0, 1) ∧ decode cX12_beginCopy 187 = .ok (.getfield 170, 3) ∧ decode cX12_beginCopy 190 = .ok (.iload 5, 2) ∧ decode cX12_beginCopy 192 = .ok (.iconst 0, 1) ∧ decode cX12_beginCopy 193 = .ok (.iastore, 1) ∧ decode cX12_beginCopy 194 = .ok (.aload_n 0, 1) ∧ decode cX12_beginCopy 195 = .ok (.getfield 173, 3) := by decide +kernel
theorem dX12_beginCopy_171 : decode cX12_beginCopy 171 = .ok (.getfield 164, 3) := db_X12_beginCopy_171.1
theorem dX12_beginCopy_174 : decode cX12_beginCopy 174 = .ok (.iload 5, 2) := db_X12_beginCopy_171.2.1
theorem dX12_beginCopy_176 : decode cX12_beginCopy 176 = .ok (.iconst 0, 1) := db_X12_beginCopy_171.2.2.1
theorem dX12_beginCopy_177 : decode cX12_beginCopy 177 = .ok (.iastore, 1) := db_X12_beginCopy_171.2.2.2.1
theorem dX12_beginCopy_178 : decode cX12_beginCopy 178 = .ok (.aload_n 0, 1) := db_X12_beginCopy_171.2.2.2.2.1
theorem dX12_beginCopy_179 : decode cX12_beginCopy 179 = .ok (.getfield 167, 3) := db_X12_beginCopy_171.2.2.2.2.2.1
theorem dX12_beginCopy_182 : decode cX12_beginCopy 182 = .ok (.iload 5, 2) := db_X12_beginCopy_171.2.2.2.2.2.2.1
theorem dX12_beginCopy_184 : decode cX12_beginCopy 184 = .ok (.iconst 0, 1) := db_X12_beginCopy_171.2.2.2.2.2.2.2.1
theorem dX12_beginCopy_185 : decode cX12_beginCopy 185 = .ok (.iastore, 1) := db_X12_beginCopy_171.2.2.2.2.2.2.2.2.1
theorem dX12_beginCopy_186 : decode cX12_beginCopy 186 = .ok (.aload_n 0, 1) := db_X12_beginCopy_171.2.2.2.2.2.2.2.2.2.1
theorem dX12_beginCopy_187 : decode cX12_beginCopy 187 = .ok (.getfield 170, 3) := db_X12_beginCopy_171.2.2.2.2.2.2.2.2.2.2.1
theorem dX12_beginCopy_190 : decode cX12_beginCopy 190 = .ok (.iload 5, 2) := db_X12_beginCopy_171.2.2.2.2.2.2.2.2.2.2.2.1
theorem dX12_beginCopy_192 : decode cX12_beginCopy 192 = .ok (.iconst 0, 1) := db_X12_beginCopy_171.2.2.2.2.2.2.2.2.2.2.2.2.1
theorem dX12_beginCopy_193 : decode cX12_beginCopy 193 = .ok (.iastore, 1) := db_X12_beginCopy_171.2.2.2.2.2.2.2.2.2.2.2.2.2.1
theorem dX12_beginCopy_194 : decode cX12_beginCopy 194 = .ok (.aload_n 0, 1) := db_X12_beginCopy_171.2.2.2.2.2.2.2.2.2.2.2.2.2.2.1
theorem dX12_beginCopy_195 : decode cX12_beginCopy 195 = .ok (.getfield 173, 3) := db_X12_beginCopy_171.2.2.2.2.2.2.2.2.2.2.2.2.2.2.2
theorem db_X12_beginCopy_198 : decode cX12_beginCopy 198 = .ok (.iload 5, 2) ∧ decode cX12_beginCopy 200 = .ok (.iconst 0, 1) ∧ decode cX12_beginCopy 201 = .ok (.iastore, 1) ∧ decode cX12_beginCopy 202 = .ok (.iinc 4 1, 3) ∧ decode cX12_beginCopy 205 = .ok (.goto (-85), 3) ∧ decode cX12_beginCopy 208 = .ok (.aload_n 0, 1) ∧ decode cX12_beginCopy 209 = .ok (.iload_n 3, 1) ∧ decode cX12_beginCopy 210 = .ok (.invokevirtual 360, 3) ∧ decode cX12_beginCopy 213 = .ok (.return_, 1) := by decide +kernel
theorem dX12_beginCopy_198 : decode cX12_beginCopy 198 = .ok (.iload 5, 2) := db_X12_beginCopy_198.1
theorem dX12_beginCopy_200 : decode cX12_beginCopy 200 = .ok (.iconst 0, 1) := db_X12_beginCopy_198.2.1
theorem dX12_beginCopy_201 : decode cX12_beginCopy 201 = .ok (.iastore, 1) := db_X12_beginCopy_198.2.2.1
theorem dX12_beginCopy_202 : decode cX12_beginCopy 202 = .ok (.iinc 4 1, 3) := db_X12_beginCopy_198.2.2.2.1
theorem dX12_beginCopy_205 : decode cX12_beginCopy 205 = .ok (.goto (-85), 3) := db_X12_beginCopy_198.2.2.2.2.1
theorem dX12_beginCopy_208 : decode cX12_beginCopy 208 = .ok (.aload_n 0, 1) := db_X12_beginCopy_198.2.2.2.2.2.1
theorem dX12_beginCopy_209 : decode cX12_beginCopy 209 = .ok (.iload_n 3, 1) := db_X12_beginCopy_198.2.2.2.2.2.2.1
theorem dX12_beginCopy_210 : decode cX12_beginCopy 210 = .ok (.invokevirtual 360, 3) := db_X12_beginCopy_198.2.2.2.2.2.2.2.1
theorem dX12_beginCopy_213 : decode cX12_beginCopy 213 = .ok (.return_, 1) := db_X12_beginCopy_198.2.2.2.2.2.2.2.2
theorem db_X12_firstDisk_0 : decode cX12_firstDisk 0 = .ok (.aload_n 0, 1) ∧ decode cX12_firstDisk 1 = .ok (.iload_n 1, 1) ∧ decode cX12_firstDisk 2 = .ok (.invokevirtual 368, 3) ∧ decode cX12_firstDisk 5 = .ok (.iconst 0, 1) ∧ decode cX12_firstDisk 6 = .ok (.istore_n 2, 1) ∧ decode cX12_firstDisk 7 = .ok (.iload_n 2, 1) ∧ decode cX12_firstDisk 8 = .ok (.sipush 6400, 3) ∧ decode cX12_firstDisk 11 = .ok (.if_icmp .ge 33, 3) ∧ decode cX12_firstDisk 14 = .ok (.aload_n 0, 1) ∧ decode cX12_firstDisk 15 = .ok (.getfield 87, 3) ∧ decode cX12_firstDisk 18 = .ok (.iload_n 1, 1) ∧ decode cX12_firstDisk 19 = .ok (.sipush 202, 3) ∧ decode cX12_firstDisk 22 = .ok (.imul, 1) ∧ decode cX12_firstDisk 23 = .ok (.bipush 102, 2) ∧ decode cX12_firstDisk 25 = .ok (.iadd, 1) ∧ decode cX12_firstDisk 26 = .ok (.bipush 64, 2) := by decide +kernel
theorem dX12_firstDisk_0 : decode cX12_firstDisk 0 = .ok (.aload_n 0, 1) := db_X12_firstDisk_0.1
theorem dX12_firstDisk_1 : decode cX12_firstDisk 1 = .ok (.iload_n 1, 1) := db_X12_firstDisk_0.2.1
theorem dX12_firstDisk_2 : decode cX12_firstDisk 2 = .ok (.invokevirtual 368, 3) := db_X12_firstDisk_0.2.2.1
theorem dX12_firstDisk_5 : decode cX12_firstDisk 5 = .ok (.iconst 0, 1) := db_X12_firstDisk_0.2.2.2.1
theorem dX12_firstDisk_6 : decode cX12_firstDisk 6 = .ok (.istore_n 2, 1) := db_X12_firstDisk_0.2.2.2.2.1
theorem dX12_firstDisk_7 : decode cX12_firstDisk 7 = .ok (.iload_n 2, 1) := db_X12_firstDisk_0.2.2.2.2.2.1
theorem dX12_firstDisk_8 : decode cX12_firstDisk 8 = .ok (.sipush 6400, 3) := db_X12_firstDisk_0.2.2.2.2.2.2.1
theorem dX12_firstDisk_11 : decode cX12_firstDisk 11 = .ok (.if_icmp .ge 33, 3) := db_X12_firstDisk_0.2.2.2.2.2.2.2.1
theorem dX12_firstDisk_14 : decode cX12_firstDisk 14 = .ok (.aload_n 0, 1) := db_X12_firstDisk_0.2.2.2.2.2.2.2.2.1
theorem dX12_firstDisk_15 : decode cX12_firstDisk 15 = .ok (.getfield 87, 3) := db_X12_firstDisk_0.2.2.2.2.2.2.2.2.2.1
theorem dX12_firstDisk_18 : decode cX12_firstDisk 18 = .ok (.iload_n 1, 1) := db_X12_firstDisk_0.2.2.2.2.2.2.2.2.2.2.1
theorem dX12_firstDisk_19 : decode cX12_firstDisk 19 = .ok (.sipush 202, 3) := db_X12_firstDisk_0.2.2.2.2.2.2.2.2.2.2.2.1
theorem dX12_firstDisk_22 : decode cX12_firstDisk 22 = .ok (.imul, 1) := db_X12_firstDisk_0.2.2.2.2.2.2.2.2.2.2.2.2.1
theorem dX12_firstDisk_23 : decode cX12_firstDisk 23 = .ok (.bipush 102, 2) := db_X12_firstDisk_0.2.2.2.2.2.2.2.2.2.2.2.2.2.1
theorem dX12_firstDisk_25 : decode cX12_firstDisk 25 = .ok (.iadd, 1) := db_X12_firstDisk_0.2.2.2.2.2.2.2.2.2.2.2.2.2.2.1
theorem dX12_firstDisk_26 : decode cX12_firstDisk 26 = .ok (.bipush 64, 2) := db_X12_firstDisk_0.2.2.2.2.2.2.2.2.2.2.2.2.2.2.2
theorem db_X12_firstDisk_28 : decode cX12_firstDisk 28 = .ok (.imul, 1) ∧ decode cX12_firstDisk 29 = .ok (.iload_n 2, 1) ∧ decode cX12_firstDisk 30 = .ok (.iadd, 1) ∧ decode cX12_firstDisk 31 = .ok (.aload_n 0, 1) ∧ decode cX12_firstDisk 32 = .ok (.getfield 103, 3) ∧ decode cX12_firstDisk 35 = .ok (.iload_n 2, 1) ∧ decode cX12_firstDisk 36 = .ok (.baload, 1) ∧ decode cX12_firstDisk 37 = .ok (.bastore, 1) ∧ decode cX12_firstDisk 38 = .ok (.iinc 2 1, 3) ∧ decode cX12_firstDisk 41 = .ok (.goto (-34), 3) ∧ decode cX12_firstDisk 44 = .ok (.aload_n 0, 1) ∧ decode cX12_firstDisk 45 = .ok (.getfield 87, 3) ∧ decode cX12_firstDisk 48 = .ok (.iload_n 1, 1) ∧ decode cX12_firstDisk 49 = .ok (.sipush 202, 3) ∧ decode cX12_firstDisk 52 = .ok (.imul, 1) ∧ decode cX12_firstDisk 53 = .ok (.iconst 1, 1) := by decide +kernel
theorem dX12_firstDisk_28 : decode cX12_firstDisk 28 = .ok (.imul, 1) := db_X12_firstDisk_28.1
theorem dX12_firstDisk_29 : decode cX12_firstDisk 29 = .ok (.iload_n 2, 1) := db_X12_firstDisk_28.2.1
theorem dX12_firstDisk_30 : decode cX12_firstDisk 30 = .ok (.iadd, 1) := db_X12_firstDisk_28.2.2.1
theorem dX12_firstDisk_31 : decode cX12_firstDisk 31 = .ok (.aload_n 0, 1) := db_X12_firstDisk_28.2.2.2.1
theorem dX12_firstDisk_32 : decode cX12_firstDisk 32 = .ok (.getfield 103, 3) := db_X12_firstDisk_28.2.2.2.2.1
theorem dX12_firstDisk_35 : decode cX12_firstDisk 35 = .ok (.iload_n 2, 1) := db_X12_firstDisk_28.2.2.2.2.2.1
theorem dX12_firstDisk_36 : decode cX12_firstDisk 36 = .ok (.baload, 1) := db_X12_firstDisk_28.2.2.2.2.2.2.1
theorem dX12_firstDisk_37 : decode cX12_firstDisk 37 = .ok (.bastore, 1) := db_X12_firstDisk_28.2.2.2.2.2.2.2.1
theorem dX12_firstDisk_38 : decode cX12_firstDisk 38 = .ok (.iinc 2 1, 3) := db_X12_firstDisk_28.2.2.2.2.2.2.2.2.1
theorem dX12_firstDisk_41 : decode cX12_firstDisk 41 = .ok (.goto (-34), 3) := db_X12_firstDisk_28.2.2.2.2.2.2.2.2.2.1
theorem dX12_firstDisk_44 : decode cX12_firstDisk 44 = .ok (.aload_n 0, 1) := db_X12_firstDisk_28.2.2.2.2.2.2.2.2.2.2.1
theorem dX12_firstDisk_45 : decode cX12_firstDisk 45 = .ok (.getfield 87, 3) := db_X12_firstDisk_28.2.2.2.2.2.2.2.2.2.2.2.1
theorem dX12_firstDisk_48 : decode cX12_firstDisk 48 = .ok (.iload_n 1, 1) := db_X12_firstDisk_28.2.2.2.2.2.2.2.2.2.2.2.2.1
theorem dX12_firstDisk_49 : decode cX12_firstDisk 49 = .ok (.sipush 202, 3) := db_X12_firstDisk_28.2.2.2.2.2.2.2.2.2.2.2.2.2.1
theorem dX12_firstDisk_52 : decode cX12_firstDisk 52 = .ok (.imul, 1) := db_X12_firstDisk_28.2.2.2.2.2.2.2.2.2.2.2.2.2.2.1
theorem dX12_firstDisk_53 : decode cX12_firstDisk 53 = .ok (.iconst 1, 1) := db_X12_firstDisk_28.2.2.2.2.2.2.2.2.2.2.2.2.2.2.2
theorem db_X12_firstDisk_54 : decode cX12_firstDisk 54 = .ok (.iadd, 1) ∧ decode cX12_firstDisk 55 = .ok (.bipush 64, 2) ∧ decode cX12_firstDisk 57 = .ok (.imul, 1) ∧ decode cX12_firstDisk 58 = .ok (.iconst 1, 1) ∧ decode cX12_firstDisk 59 = .ok (.bastore, 1) ∧ decode cX12_firstDisk 60 = .ok (.aload_n 0, 1) ∧ decode cX12_firstDisk 61 = .ok (.getfield 94, 3) ∧ decode cX12_firstDisk 64 = .ok (.iload_n 1, 1) ∧ decode cX12_firstDisk 65 = .ok (.iconst 1, 1) ∧ decode cX12_firstDisk 66 = .ok (.iastore, 1) ∧ decode cX12_firstDisk 67 = .ok (.aload_n 0, 1) ∧ decode cX12_firstDisk 68 = .ok (.getfield 91, 3) ∧ decode cX12_firstDisk 71 = .ok (.iload_n 1, 1) ∧ decode cX12_firstDisk 72 = .ok (.aload_n 0, 1) ∧ decode cX12_firstDisk 73 = .ok (.getfield 371, 3) ∧ decode cX12_firstDisk 76 = .ok (.iastore, 1) := by decide +kernel
theorem dX12_firstDisk_54 : decode cX12_firstDisk 54 = .ok (.iadd, 1) := db_X12_firstDisk_54.1
theorem dX12_firstDisk_55 : decode cX12_firstDisk 55 = .ok (.bipush 64, 2) := db_X12_firstDisk_54.2.1
theorem dX12_firstDisk_57 : decode cX12_firstDisk 57 = .ok (.imul, 1) := db_X12_firstDisk_54.2.2.1
theorem dX12_firstDisk_58 : decode cX12_firstDisk 58 = .ok (.iconst 1, 1) := db_X12_firstDisk_54.2.2.2.1
theorem dX12_firstDisk_59 : decode cX12_firstDisk 59 = .ok (.bastore, 1) := db_X12_firstDisk_54.2.2.2.2.1
theorem dX12_firstDisk_60 : decode cX12_firstDisk 60 = .ok (.aload_n 0, 1) := db_X12_firstDisk_54.2.2.2.2.2.1
theorem dX12_firstDisk_61 : decode cX12_firstDisk 61 = .ok (.getfield 94, 3) := db_X12_firstDisk_54.2.2.2.2.2.2.1
theorem dX12_firstDisk_64 : decode cX12_firstDisk 64 = .ok (.iload_n 1, 1) := db_X12_firstDisk_54.2.2.2.2.2.2.2.1
theorem dX12_firstDisk_65 : decode cX12_firstDisk 65 = .ok (.iconst 1, 1) := db_X12_firstDisk_54.2.2.2.2.2.2.2.2.1
theorem dX12_firstDisk_66 : decode cX12_firstDisk 66 = .ok (.iastore, 1) := db_X12_firstDisk_54.2.2.2.2.2.2.2.2.2.1
theorem dX12_firstDisk_67 : decode cX12_firstDisk 67 = .ok (.aload_n 0, 1) := db_X12_firstDisk_54.2.2.2.2.2.2.2.2.2.2.1
theorem dX12_firstDisk_68 : decode cX12_firstDisk 68 = .ok (.getfield 91, 3) := db_X12_firstDisk_54.2.2.2.2.2.2.2.2.2.2.2.1
theorem dX12_firstDisk_71 : decode cX12_firstDisk 71 = .ok (.iload_n 1, 1) := db_X12_firstDisk_54.2.2.2.2.2.2.2.2.2.2.2.2.1
theorem dX12_firstDisk_72 : decode cX12_firstDisk 72 = .ok (.aload_n 0, 1) := db_X12_firstDisk_54.2.2.2.2.2.2.2.2.2.2.2.2.2.1
theorem dX12_firstDisk_73 : decode cX12_firstDisk 73 = .ok (.getfield 371, 3) := db_X12_firstDisk_54.2.2.2.2.2.2.2.2.2.2.2.2.2.2.1
theorem dX12_firstDisk_76 : decode cX12_firstDisk 76 = .ok (.iastore, 1) := db_X12_firstDisk_54.2.2.2.2.2.2.2.2.2.2.2.2.2.2.2
theorem db_X12_firstDisk_77 : decode cX12_firstDisk 77 = .ok (.aload_n 0, 1) ∧ decode cX12_firstDisk 78 = .ok (.getfield 97, 3) ∧ decode cX12_firstDisk 81 = .ok (.iconst 2, 1) ∧ decode cX12_firstDisk 82 = .ok (.iload_n 1, 1) ∧ decode cX12_firstDisk 83 = .ok (.imul, 1) ∧ decode cX12_firstDisk 84 = .ok (.iconst 1, 1) ∧ decode cX12_firstDisk 85 = .ok (.iadd, 1) ∧ decode cX12_firstDisk 86 = .ok (.iconst 0, 1) ∧ decode cX12_firstDisk 87 = .ok (.iastore, 1) ∧ decode cX12_firstDisk 88 = .ok (.return_, 1) := by decide +kernel
theorem dX12_firstDisk_77 : decode cX12_firstDisk 77 = .ok (.aload_n 0, 1) := db_X12_firstDisk_77.1
theorem dX12_firstDisk_78 : decode cX12_firstDisk 78 = .ok (.getfield 97, 3) := db_X12_firstDisk_77.2.1
theorem dX12_firstDisk_81 : decode cX12_firstDisk 81 = .ok (.iconst 2, 1) := db_X12_firstDisk_77.2.2.1
theorem dX12_firstDisk_82 : decode cX12_firstDisk 82 = .ok (.iload_n 1, 1) := db_X12_firstDisk_77.2.2.2.1
theorem dX12_firstDisk_83 : decode cX12_firstDisk 83 = .ok (.imul, 1) := db_X12_firstDisk_77.2.2.2.2.1
theorem dX12_firstDisk_84 : decode cX12_firstDisk 84 = .ok (.iconst 1, 1) := db_X12_firstDisk_77.2.2.2.2.2.1
theorem dX12_firstDisk_85 : decode cX12_firstDisk 85 = .ok (.iadd, 1) := db_X12_firstDisk_77.2.2.2.2.2.2.1
theorem dX12_firstDisk_86 : decode cX12_firstDisk 86 = .ok (.iconst 0, 1) := db_X12_firstDisk_77.2.2.2.2.2.2.2.1
theorem dX12_firstDisk_87 : decode cX12_firstDisk 87 = .ok (.iastore, 1) := db_X12_firstDisk_77.2.2.2.2.2.2.2.2.1
theorem dX12_firstDisk_88 : decode cX12_firstDisk 88 = .ok (.return_, 1) := db_X12_firstDisk_77.2.2.2.2.2.2.2.2.2
theorem db_X12_nodeAt_0 : decode cX12_nodeAt 0 = .ok (.aload_n 0, 1) ∧ decode cX12_nodeAt 1 = .ok (.getfield 146, 3) ∧ decode cX12_nodeAt 4 = .ok (.sipush 700, 3) ∧ decode cX12_nodeAt 7 = .ok (.iload_n 1, 1) ∧ decode cX12_nodeAt 8 = .ok (.imul, 1) ∧ decode cX12_nodeAt 9 = .ok (.iload_n 2, 1) ∧ decode cX12_nodeAt 10 = .ok (.iadd, 1) ∧ decode cX12_nodeAt 11 = .ok (.iaload, 1) ∧ decode cX12_nodeAt 12 = .ok (.ireturn, 1) := by decide +kernel
theorem dX12_nodeAt_0 : decode cX12_nodeAt 0 = .ok (.aload_n 0, 1) := db_X12_nodeAt_0.1
theorem dX12_nodeAt_1 : decode cX12_nodeAt 1 = .ok (.getfield 146, 3) := db_X12_nodeAt_0.2.1
theorem dX12_nodeAt_4 : decode cX12_nodeAt 4 = .ok (.sipush 700, 3) := db_X12_nodeAt_0.2.2.1
theorem dX12_nodeAt_7 : decode cX12_nodeAt 7 = .ok (.iload_n 1, 1) := db_X12_nodeAt_0.2.2.2.1
theorem dX12_nodeAt_8 : decode cX12_nodeAt 8 = .ok (.imul, 1) := db_X12_nodeAt_0.2.2.2.2.1
theorem dX12_nodeAt_9 : decode cX12_nodeAt 9 = .ok (.iload_n 2, 1) := db_X12_nodeAt_0.2.2.2.2.2.1
theorem dX12_nodeAt_10 : decode cX12_nodeAt 10 = .ok (.iadd, 1) := db_X12_nodeAt_0.2.2.2.2.2.2.1
theorem dX12_nodeAt_11 : decode cX12_nodeAt 11 = .ok (.iaload, 1) := db_X12_nodeAt_0.2.2.2.2.2.2.2.1
theorem dX12_nodeAt_12 : decode cX12_nodeAt 12 = .ok (.ireturn, 1) := db_X12_nodeAt_0.2.2.2.2.2.2.2.2
theorem db_X12_documentAt_0 : decode cX12_documentAt 0 = .ok (.iload_n 1, 1) ∧ decode cX12_documentAt 1 = .ok (.istore_n 3, 1) ∧ decode cX12_documentAt 2 = .ok (.iload_n 3, 1) ∧ decode cX12_documentAt 3 = .ok (.ifCond .eq 49, 3) ∧ decode cX12_documentAt 52 = .ok (.iconst (-1), 1) ∧ decode cX12_documentAt 53 = .ok (.ireturn, 1) := by decide +kernel
theorem dX12_documentAt_0 : decode cX12_documentAt 0 = .ok (.iload_n 1, 1) := db_X12_documentAt_0.1
theorem dX12_documentAt_1 : decode cX12_documentAt 1 = .ok (.istore_n 3, 1) := db_X12_documentAt_0.2.1
theorem dX12_documentAt_2 : decode cX12_documentAt 2 = .ok (.iload_n 3, 1) := db_X12_documentAt_0.2.2.1
theorem dX12_documentAt_3 : decode cX12_documentAt 3 = .ok (.ifCond .eq 49, 3) := db_X12_documentAt_0.2.2.2.1
theorem dX12_documentAt_52 : decode cX12_documentAt 52 = .ok (.iconst (-1), 1) := db_X12_documentAt_0.2.2.2.2.1
theorem dX12_documentAt_53 : decode cX12_documentAt 53 = .ok (.ireturn, 1) := db_X12_documentAt_0.2.2.2.2.2
theorem db_X12_h1_0 : decode cX12_h1 0 = .ok (.aload_n 0, 1) ∧ decode cX12_h1 1 = .ok (.getfield 103, 3) ∧ decode cX12_h1 4 = .ok (.aload_n 0, 1) ∧ decode cX12_h1 5 = .ok (.getfield 371, 3) ∧ decode cX12_h1 8 = .ok (.iload_n 1, 1) ∧ decode cX12_h1 9 = .ok (.i2b, 1) ∧ decode cX12_h1 10 = .ok (.bastore, 1) ∧ decode cX12_h1 11 = .ok (.aload_n 0, 1) ∧ decode cX12_h1 12 = .ok (.dup, 1) ∧ decode cX12_h1 13 = .ok (.getfield 371, 3) ∧ decode cX12_h1 16 = .ok (.iconst 1, 1) ∧ decode cX12_h1 17 = .ok (.iadd, 1) ∧ decode cX12_h1 18 = .ok (.putfield 371, 3) ∧ decode cX12_h1 21 = .ok (.return_, 1) := by decide +kernel
theorem dX12_h1_0 : decode cX12_h1 0 = .ok (.aload_n 0, 1) := db_X12_h1_0.1
theorem dX12_h1_1 : decode cX12_h1 1 = .ok (.getfield 103, 3) := db_X12_h1_0.2.1
theorem dX12_h1_4 : decode cX12_h1 4 = .ok (.aload_n 0, 1) := db_X12_h1_0.2.2.1
theorem dX12_h1_5 : decode cX12_h1 5 = .ok (.getfield 371, 3) := db_X12_h1_0.2.2.2.1
theorem dX12_h1_8 : decode cX12_h1 8 = .ok (.iload_n 1, 1) := db_X12_h1_0.2.2.2.2.1
theorem dX12_h1_9 : decode cX12_h1 9 = .ok (.i2b, 1) := db_X12_h1_0.2.2.2.2.2.1
theorem dX12_h1_10 : decode cX12_h1 10 = .ok (.bastore, 1) := db_X12_h1_0.2.2.2.2.2.2.1
theorem dX12_h1_11 : decode cX12_h1 11 = .ok (.aload_n 0, 1) := db_X12_h1_0.2.2.2.2.2.2.2.1
theorem dX12_h1_12 : decode cX12_h1 12 = .ok (.dup, 1) := db_X12_h1_0.2.2.2.2.2.2.2.2.1
theorem dX12_h1_13 : decode cX12_h1 13 = .ok (.getfield 371, 3) := db_X12_h1_0.2.2.2.2.2.2.2.2.2.1
theorem dX12_h1_16 : decode cX12_h1 16 = .ok (.iconst 1, 1) := db_X12_h1_0.2.2.2.2.2.2.2.2.2.2.1
theorem dX12_h1_17 : decode cX12_h1 17 = .ok (.iadd, 1) := db_X12_h1_0.2.2.2.2.2.2.2.2.2.2.2.1
theorem dX12_h1_18 : decode cX12_h1 18 = .ok (.putfield 371, 3) := db_X12_h1_0.2.2.2.2.2.2.2.2.2.2.2.2.1
theorem dX12_h1_21 : decode cX12_h1 21 = .ok (.return_, 1) := db_X12_h1_0.2.2.2.2.2.2.2.2.2.2.2.2.2
theorem db_X12_h2_0 : decode cX12_h2 0 = .ok (.aload_n 0, 1) ∧ decode cX12_h2 1 = .ok (.iload_n 1, 1) ∧ decode cX12_h2 2 = .ok (.bipush 8, 2) ∧ decode cX12_h2 4 = .ok (.ishr, 1) ∧ decode cX12_h2 5 = .ok (.invokevirtual 374, 3) ∧ decode cX12_h2 8 = .ok (.aload_n 0, 1) ∧ decode cX12_h2 9 = .ok (.iload_n 1, 1) ∧ decode cX12_h2 10 = .ok (.invokevirtual 374, 3) ∧ decode cX12_h2 13 = .ok (.return_, 1) := by decide +kernel
theorem dX12_h2_0 : decode cX12_h2 0 = .ok (.aload_n 0, 1) := db_X12_h2_0.1
theorem dX12_h2_1 : decode cX12_h2 1 = .ok (.iload_n 1, 1) := db_X12_h2_0.2.1
theorem dX12_h2_2 : decode cX12_h2 2 = .ok (.bipush 8, 2) := db_X12_h2_0.2.2.1
theorem dX12_h2_4 : decode cX12_h2 4 = .ok (.ishr, 1) := db_X12_h2_0.2.2.2.1
theorem dX12_h2_5 : decode cX12_h2 5 = .ok (.invokevirtual 374, 3) := db_X12_h2_0.2.2.2.2.1
theorem dX12_h2_8 : decode cX12_h2 8 = .ok (.aload_n 0, 1) := db_X12_h2_0.2.2.2.2.2.1
theorem dX12_h2_9 : decode cX12_h2 9 = .ok (.iload_n 1, 1) := db_X12_h2_0.2.2.2.2.2.2.1
theorem dX12_h2_10 : decode cX12_h2 10 = .ok (.invokevirtual 374, 3) := db_X12_h2_0.2.2.2.2.2.2.2.1
theorem dX12_h2_13 : decode cX12_h2 13 = .ok (.return_, 1) := db_X12_h2_0.2.2.2.2.2.2.2.2
theorem db_X12_fillHalf_0 : decode cX12_fillHalf 0 = .ok (.aload_n 0, 1) ∧ decode cX12_fillHalf 1 = .ok (.iconst 0, 1) ∧ decode cX12_fillHalf 2 = .ok (.putfield 371, 3) ∧ decode cX12_fillHalf 5 = .ok (.iload_n 1, 1) ∧ decode cX12_fillHalf 6 = .ok (.bipush 20, 2) ∧ decode cX12_fillHalf 8 = .ok (.if_icmp .ne 98, 3) ∧ decode cX12_fillHalf 11 = .ok (.iconst 0, 1) ∧ decode cX12_fillHalf 12 = .ok (.istore_n 2, 1) ∧ decode cX12_fillHalf 13 = .ok (.iload_n 2, 1) ∧ decode cX12_fillHalf 14 = .ok (.aload_n 0, 1) ∧ decode cX12_fillHalf 15 = .ok (.getfield 327, 3) ∧ decode cX12_fillHalf 18 = .ok (.if_icmp .ge 85, 3) ∧ decode cX12_fillHalf 21 = .ok (.aload_n 0, 1) ∧ decode cX12_fillHalf 22 = .ok (.bipush 7, 2) ∧ decode cX12_fillHalf 24 = .ok (.invokevirtual 374, 3) ∧ decode cX12_fillHalf 27 = .ok (.aload_n 0, 1) := by decide +kernel
theorem dX12_fillHalf_0 : decode cX12_fillHalf 0 = .ok (.aload_n 0, 1) := db_X12_fillHalf_0.1
theorem dX12_fillHalf_1 : decode cX12_fillHalf 1 = .ok (.iconst 0, 1) := db_X12_fillHalf_0.2.1
theorem dX12_fillHalf_2 : decode cX12_fillHalf 2 = .ok (.putfield 371, 3) := db_X12_fillHalf_0.2.2.1
theorem dX12_fillHalf_5 : decode cX12_fillHalf 5 = .ok (.iload_n 1, 1) := db_X12_fillHalf_0.2.2.2.1
theorem dX12_fillHalf_6 : decode cX12_fillHalf 6 = .ok (.bipush 20, 2) := db_X12_fillHalf_0.2.2.2.2.1
theorem dX12_fillHalf_8 : decode cX12_fillHalf 8 = .ok (.if_icmp .ne 98, 3) := db_X12_fillHalf_0.2.2.2.2.2.1
theorem dX12_fillHalf_11 : decode cX12_fillHalf 11 = .ok (.iconst 0, 1) := db_X12_fillHalf_0.2.2.2.2.2.2.1
theorem dX12_fillHalf_12 : decode cX12_fillHalf 12 = .ok (.istore_n 2, 1) := db_X12_fillHalf_0.2.2.2.2.2.2.2.1
theorem dX12_fillHalf_13 : decode cX12_fillHalf 13 = .ok (.iload_n 2, 1) := db_X12_fillHalf_0.2.2.2.2.2.2.2.2.1
theorem dX12_fillHalf_14 : decode cX12_fillHalf 14 = .ok (.aload_n 0, 1) := db_X12_fillHalf_0.2.2.2.2.2.2.2.2.2.1
theorem dX12_fillHalf_15 : decode cX12_fillHalf 15 = .ok (.getfield 327, 3) := db_X12_fillHalf_0.2.2.2.2.2.2.2.2.2.2.1
theorem dX12_fillHalf_18 : decode cX12_fillHalf 18 = .ok (.if_icmp .ge 85, 3) := db_X12_fillHalf_0.2.2.2.2.2.2.2.2.2.2.2.1
theorem dX12_fillHalf_21 : decode cX12_fillHalf 21 = .ok (.aload_n 0, 1) := db_X12_fillHalf_0.2.2.2.2.2.2.2.2.2.2.2.2.1
theorem dX12_fillHalf_22 : decode cX12_fillHalf 22 = .ok (.bipush 7, 2) := db_X12_fillHalf_0.2.2.2.2.2.2.2.2.2.2.2.2.2.1
theorem dX12_fillHalf_24 : decode cX12_fillHalf 24 = .ok (.invokevirtual 374, 3) := db_X12_fillHalf_0.2.2.2.2.2.2.2.2.2.2.2.2.2.2.1
theorem dX12_fillHalf_27 : decode cX12_fillHalf 27 = .ok (.aload_n 0, 1) := db_X12_fillHalf_0.2.2.2.2.2.2.2.2.2.2.2.2.2.2.2
theorem db_X12_fillHalf_28 : decode cX12_fillHalf 28 = .ok (.bipush 7, 2) ∧ decode cX12_fillHalf 30 = .ok (.invokevirtual 374, 3) ∧ decode cX12_fillHalf 33 = .ok (.aload_n 0, 1) ∧ decode cX12_fillHalf 34 = .ok (.iload_n 2, 1) ∧ decode cX12_fillHalf 35 = .ok (.invokevirtual 374, 3) ∧ decode cX12_fillHalf 38 = .ok (.aload_n 0, 1) ∧ decode cX12_fillHalf 39 = .ok (.aload_n 0, 1) ∧ decode cX12_fillHalf 40 = .ok (.getfield 176, 3) ∧ decode cX12_fillHalf 43 = .ok (.bipush 20, 2) ∧ decode cX12_fillHalf 45 = .ok (.iload_n 2, 1) ∧ decode cX12_fillHalf 46 = .ok (.iadd, 1) ∧ decode cX12_fillHalf 47 = .ok (.iaload, 1) ∧ decode cX12_fillHalf 48 = .ok (.invokevirtual 383, 3) ∧ decode cX12_fillHalf 51 = .ok (.aload_n 0, 1) ∧ decode cX12_fillHalf 52 = .ok (.aload_n 0, 1) ∧ decode cX12_fillHalf 53 = .ok (.getfield 179, 3) := by decide +kernel
theorem dX12_fillHalf_28 : decode cX12_fillHalf 28 = .ok (.bipush 7, 2) := db_X12_fillHalf_28.1
theorem dX12_fillHalf_30 : decode cX12_fillHalf 30 = .ok (.invokevirtual 374, 3) := db_X12_fillHalf_28.2.1
theorem dX12_fillHalf_33 : decode cX12_fillHalf 33 = .ok (.aload_n 0, 1) := db_X12_fillHalf_28.2.2.1
theorem dX12_fillHalf_34 : decode cX12_fillHalf 34 = .ok (.iload_n 2, 1) := db_X12_fillHalf_28.2.2.2.1
theorem dX12_fillHalf_35 : decode cX12_fillHalf 35 = .ok (.invokevirtual 374, 3) := db_X12_fillHalf_28.2.2.2.2.1
theorem dX12_fillHalf_38 : decode cX12_fillHalf 38 = .ok (.aload_n 0, 1) := db_X12_fillHalf_28.2.2.2.2.2.1
theorem dX12_fillHalf_39 : decode cX12_fillHalf 39 = .ok (.aload_n 0, 1) := db_X12_fillHalf_28.2.2.2.2.2.2.1
theorem dX12_fillHalf_40 : decode cX12_fillHalf 40 = .ok (.getfield 176, 3) := db_X12_fillHalf_28.2.2.2.2.2.2.2.1
theorem dX12_fillHalf_43 : decode cX12_fillHalf 43 = .ok (.bipush 20, 2) := db_X12_fillHalf_28.2.2.2.2.2.2.2.2.1
theorem dX12_fillHalf_45 : decode cX12_fillHalf 45 = .ok (.iload_n 2, 1) := db_X12_fillHalf_28.2.2.2.2.2.2.2.2.2.1
theorem dX12_fillHalf_46 : decode cX12_fillHalf 46 = .ok (.iadd, 1) := db_X12_fillHalf_28.2.2.2.2.2.2.2.2.2.2.1
theorem dX12_fillHalf_47 : decode cX12_fillHalf 47 = .ok (.iaload, 1) := db_X12_fillHalf_28.2.2.2.2.2.2.2.2.2.2.2.1
theorem dX12_fillHalf_48 : decode cX12_fillHalf 48 = .ok (.invokevirtual 383, 3) := db_X12_fillHalf_28.2.2.2.2.2.2.2.2.2.2.2.2.1
theorem dX12_fillHalf_51 : decode cX12_fillHalf 51 = .ok (.aload_n 0, 1) := db_X12_fillHalf_28.2.2.2.2.2.2.2.2.2.2.2.2.2.1
theorem dX12_fillHalf_52 : decode cX12_fillHalf 52 = .ok (.aload_n 0, 1) := db_X12_fillHalf_28.2.2.2.2.2.2.2.2.2.2.2.2.2.2.1
theorem dX12_fillHalf_53 : decode cX12_fillHalf 53 = .ok (.getfield 179, 3) := db_X12_fillHalf_28.2.2.2.2.2.2.2.2.2.2.2.2.2.2.2
theorem db_X12_fillHalf_56 : decode cX12_fillHalf 56 = .ok (.bipush 20, 2) ∧ decode cX12_fillHalf 58 = .ok (.iload_n 2, 1) ∧ decode cX12_fillHalf 59 = .ok (.iadd, 1) ∧ decode cX12_fillHalf 60 = .ok (.iaload, 1) ∧ decode cX12_fillHalf 61 = .ok (.invokevirtual 374, 3) ∧ decode cX12_fillHalf 64 = .ok (.aload_n 0, 1) ∧ decode cX12_fillHalf 65 = .ok (.aload_n 0, 1) ∧ decode cX12_fillHalf 66 = .ok (.getfield 182, 3) ∧ decode cX12_fillHalf 69 = .ok (.bipush 20, 2) ∧ decode cX12_fillHalf 71 = .ok (.iload_n 2, 1) ∧ decode cX12_fillHalf 72 = .ok (.iadd, 1) ∧ decode cX12_fillHalf 73 = .ok (.iaload, 1) ∧ decode cX12_fillHalf 74 = .ok (.invokevirtual 374, 3) ∧ decode cX12_fillHalf 77 = .ok (.aload_n 0, 1) ∧ decode cX12_fillHalf 78 = .ok (.aload_n 0, 1) ∧ decode cX12_fillHalf 79 = .ok (.getfield 185, 3) := by decide +kernel
theorem dX12_fillHalf_56 : decode cX12_fillHalf 56 = .ok (.bipush 20, 2) := db_X12_fillHalf_56.1
theorem dX12_fillHalf_58 : decode cX12_fillHalf 58 = .ok (.iload_n 2, 1) := db_X12_fillHalf_56.2.1
theorem dX12_fillHalf_59 : decode cX12_fillHalf 59 = .ok (.iadd, 1) := db_X12_fillHalf_56.2.2.1
theorem dX12_fillHalf_60 : decode cX12_fillHalf 60 = .ok (.iaload, 1) := db_X12_fillHalf_56.2.2.2.1
theorem dX12_fillHalf_61 : decode cX12_fillHalf 61 = .ok (.invokevirtual 374, 3) := db_X12_fillHalf_56.2.2.2.2.1
theorem dX12_fillHalf_64 : decode cX12_fillHalf 64 = .ok (.aload_n 0, 1) := db_X12_fillHalf_56.2.2.2.2.2.1
theorem dX12_fillHalf_65 : decode cX12_fillHalf 65 = .ok (.aload_n 0, 1) := db_X12_fillHalf_56.2.2.2.2.2.2.1
theorem dX12_fillHalf_66 : decode cX12_fillHalf 66 = .ok (.getfield 182, 3) := db_X12_fillHalf_56.2.2.2.2.2.2.2.1
theorem dX12_fillHalf_69 : decode cX12_fillHalf 69 = .ok (.bipush 20, 2) := db_X12_fillHalf_56.2.2.2.2.2.2.2.2.1
theorem dX12_fillHalf_71 : decode cX12_fillHalf 71 = .ok (.iload_n 2, 1) := db_X12_fillHalf_56.2.2.2.2.2.2.2.2.2.1
theorem dX12_fillHalf_72 : decode cX12_fillHalf 72 = .ok (.iadd, 1) := db_X12_fillHalf_56.2.2.2.2.2.2.2.2.2.2.1
theorem dX12_fillHalf_73 : decode cX12_fillHalf 73 = .ok (.iaload, 1) := db_X12_fillHalf_56.2.2.2.2.2.2.2.2.2.2.2.1
theorem dX12_fillHalf_74 : decode cX12_fillHalf 74 = .ok (.invokevirtual 374, 3) := db_X12_fillHalf_56.2.2.2.2.2.2.2.2.2.2.2.2.1
theorem dX12_fillHalf_77 : decode cX12_fillHalf 77 = .ok (.aload_n 0, 1) := db_X12_fillHalf_56.2.2.2.2.2.2.2.2.2.2.2.2.2.1
theorem dX12_fillHalf_78 : decode cX12_fillHalf 78 = .ok (.aload_n 0, 1) := db_X12_fillHalf_56.2.2.2.2.2.2.2.2.2.2.2.2.2.2.1
theorem dX12_fillHalf_79 : decode cX12_fillHalf 79 = .ok (.getfield 185, 3) := db_X12_fillHalf_56.2.2.2.2.2.2.2.2.2.2.2.2.2.2.2
theorem db_X12_fillHalf_82 : decode cX12_fillHalf 82 = .ok (.bipush 20, 2) ∧ decode cX12_fillHalf 84 = .ok (.iload_n 2, 1) ∧ decode cX12_fillHalf 85 = .ok (.iadd, 1) ∧ decode cX12_fillHalf 86 = .ok (.iaload, 1) ∧ decode cX12_fillHalf 87 = .ok (.invokevirtual 383, 3) ∧ decode cX12_fillHalf 90 = .ok (.aload_n 0, 1) ∧ decode cX12_fillHalf 91 = .ok (.sipush 255, 3) ∧ decode cX12_fillHalf 94 = .ok (.invokevirtual 374, 3) ∧ decode cX12_fillHalf 97 = .ok (.iinc 2 1, 3) ∧ decode cX12_fillHalf 100 = .ok (.goto (-87), 3) ∧ decode cX12_fillHalf 103 = .ok (.goto 8, 3) ∧ decode cX12_fillHalf 106 = .ok (.aload_n 0, 1) ∧ decode cX12_fillHalf 107 = .ok (.iload_n 1, 1) ∧ decode cX12_fillHalf 108 = .ok (.invokevirtual 386, 3) ∧ decode cX12_fillHalf 111 = .ok (.aload_n 0, 1) ∧ decode cX12_fillHalf 112 = .ok (.getfield 371, 3) := by decide +kernel
theorem dX12_fillHalf_82 : decode cX12_fillHalf 82 = .ok (.bipush 20, 2) := db_X12_fillHalf_82.1
theorem dX12_fillHalf_84 : decode cX12_fillHalf 84 = .ok (.iload_n 2, 1) := db_X12_fillHalf_82.2.1
theorem dX12_fillHalf_85 : decode cX12_fillHalf 85 = .ok (.iadd, 1) := db_X12_fillHalf_82.2.2.1
theorem dX12_fillHalf_86 : decode cX12_fillHalf 86 = .ok (.iaload, 1) := db_X12_fillHalf_82.2.2.2.1
theorem dX12_fillHalf_87 : decode cX12_fillHalf 87 = .ok (.invokevirtual 383, 3) := db_X12_fillHalf_82.2.2.2.2.1
theorem dX12_fillHalf_90 : decode cX12_fillHalf 90 = .ok (.aload_n 0, 1) := db_X12_fillHalf_82.2.2.2.2.2.1
theorem dX12_fillHalf_91 : decode cX12_fillHalf 91 = .ok (.sipush 255, 3) := db_X12_fillHalf_82.2.2.2.2.2.2.1
theorem dX12_fillHalf_94 : decode cX12_fillHalf 94 = .ok (.invokevirtual 374, 3) := db_X12_fillHalf_82.2.2.2.2.2.2.2.1
theorem dX12_fillHalf_97 : decode cX12_fillHalf 97 = .ok (.iinc 2 1, 3) := db_X12_fillHalf_82.2.2.2.2.2.2.2.2.1
theorem dX12_fillHalf_100 : decode cX12_fillHalf 100 = .ok (.goto (-87), 3) := db_X12_fillHalf_82.2.2.2.2.2.2.2.2.2.1
theorem dX12_fillHalf_103 : decode cX12_fillHalf 103 = .ok (.goto 8, 3) := db_X12_fillHalf_82.2.2.2.2.2.2.2.2.2.2.1
theorem dX12_fillHalf_106 : decode cX12_fillHalf 106 = .ok (.aload_n 0, 1) := db_X12_fillHalf_82.2.2.2.2.2.2.2.2.2.2.2.1
theorem dX12_fillHalf_107 : decode cX12_fillHalf 107 = .ok (.iload_n 1, 1) := db_X12_fillHalf_82.2.2.2.2.2.2.2.2.2.2.2.2.1
theorem dX12_fillHalf_108 : decode cX12_fillHalf 108 = .ok (.invokevirtual 386, 3) := db_X12_fillHalf_82.2.2.2.2.2.2.2.2.2.2.2.2.2.1
theorem dX12_fillHalf_111 : decode cX12_fillHalf 111 = .ok (.aload_n 0, 1) := db_X12_fillHalf_82.2.2.2.2.2.2.2.2.2.2.2.2.2.2.1
theorem dX12_fillHalf_112 : decode cX12_fillHalf 112 = .ok (.getfield 371, 3) := db_X12_fillHalf_82.2.2.2.2.2.2.2.2.2.2.2.2.2.2.2
theorem db_X12_fillHalf_115 : decode cX12_fillHalf 115 = .ok (.istore_n 2, 1) ∧ decode cX12_fillHalf 116 = .ok (.iload_n 2, 1) ∧ decode cX12_fillHalf 117 = .ok (.sipush 6400, 3) ∧ decode cX12_fillHalf 120 = .ok (.if_icmp .ge 16, 3) ∧ decode cX12_fillHalf 123 = .ok (.aload_n 0, 1) ∧ decode cX12_fillHalf 124 = .ok (.getfield 103, 3) ∧ decode cX12_fillHalf 127 = .ok (.iload_n 2, 1) ∧ decode cX12_fillHalf 128 = .ok (.iconst 0, 1) ∧ decode cX12_fillHalf 129 = .ok (.bastore, 1) ∧ decode cX12_fillHalf 130 = .ok (.iinc 2 1, 3) ∧ decode cX12_fillHalf 133 = .ok (.goto (-17), 3) ∧ decode cX12_fillHalf 136 = .ok (.return_, 1) := by decide +kernel
theorem dX12_fillHalf_115 : decode cX12_fillHalf 115 = .ok (.istore_n 2, 1) := db_X12_fillHalf_115.1
theorem dX12_fillHalf_116 : decode cX12_fillHalf 116 = .ok (.iload_n 2, 1) := db_X12_fillHalf_115.2.1
theorem dX12_fillHalf_117 : decode cX12_fillHalf 117 = .ok (.sipush 6400, 3) := db_X12_fillHalf_115.2.2.1
theorem dX12_fillHalf_120 : decode cX12_fillHalf 120 = .ok (.if_icmp .ge 16, 3) := db_X12_fillHalf_115.2.2.2.1
theorem dX12_fillHalf_123 : decode cX12_fillHalf 123 = .ok (.aload_n 0, 1) := db_X12_fillHalf_115.2.2.2.2.1
theorem dX12_fillHalf_124 : decode cX12_fillHalf 124 = .ok (.getfield 103, 3) := db_X12_fillHalf_115.2.2.2.2.2.1
theorem dX12_fillHalf_127 : decode cX12_fillHalf 127 = .ok (.iload_n 2, 1) := db_X12_fillHalf_115.2.2.2.2.2.2.1
theorem dX12_fillHalf_128 : decode cX12_fillHalf 128 = .ok (.iconst 0, 1) := db_X12_fillHalf_115.2.2.2.2.2.2.2.1
theorem dX12_fillHalf_129 : decode cX12_fillHalf 129 = .ok (.bastore, 1) := db_X12_fillHalf_115.2.2.2.2.2.2.2.2.1
theorem dX12_fillHalf_130 : decode cX12_fillHalf 130 = .ok (.iinc 2 1, 3) := db_X12_fillHalf_115.2.2.2.2.2.2.2.2.2.1
theorem dX12_fillHalf_133 : decode cX12_fillHalf 133 = .ok (.goto (-17), 3) := db_X12_fillHalf_115.2.2.2.2.2.2.2.2.2.2.1
theorem dX12_fillHalf_136 : decode cX12_fillHalf 136 = .ok (.return_, 1) := db_X12_fillHalf_115.2.2.2.2.2.2.2.2.2.2.2
theorem db_X12_halfCopy_0 : decode cX12_halfCopy 0 = .ok (.aload_n 0, 1) ∧ decode cX12_halfCopy 1 = .ok (.iload_n 1, 1) ∧ decode cX12_halfCopy 2 = .ok (.aload_n 0, 1) ∧ decode cX12_halfCopy 3 = .ok (.getfield 134, 3) ∧ decode cX12_halfCopy 6 = .ok (.iload_n 1, 1) ∧ decode cX12_halfCopy 7 = .ok (.iaload, 1) ∧ decode cX12_halfCopy 8 = .ok (.invokevirtual 389, 3) ∧ decode cX12_halfCopy 11 = .ok (.istore_n 2, 1) ∧ decode cX12_halfCopy 12 = .ok (.aload_n 0, 1) ∧ decode cX12_halfCopy 13 = .ok (.iconst 5, 1) ∧ decode cX12_halfCopy 14 = .ok (.invokevirtual 374, 3) ∧ decode cX12_halfCopy 17 = .ok (.aload_n 0, 1) ∧ decode cX12_halfCopy 18 = .ok (.bipush 67, 2) ∧ decode cX12_halfCopy 20 = .ok (.invokevirtual 374, 3) ∧ decode cX12_halfCopy 23 = .ok (.aload_n 0, 1) ∧ decode cX12_halfCopy 24 = .ok (.aload_n 0, 1) := by decide +kernel
theorem dX12_halfCopy_0 : decode cX12_halfCopy 0 = .ok (.aload_n 0, 1) := db_X12_halfCopy_0.1
theorem dX12_halfCopy_1 : decode cX12_halfCopy 1 = .ok (.iload_n 1, 1) := db_X12_halfCopy_0.2.1
theorem dX12_halfCopy_2 : decode cX12_halfCopy 2 = .ok (.aload_n 0, 1) := db_X12_halfCopy_0.2.2.1
theorem dX12_halfCopy_3 : decode cX12_halfCopy 3 = .ok (.getfield 134, 3) := db_X12_halfCopy_0.2.2.2.1
theorem dX12_halfCopy_6 : decode cX12_halfCopy 6 = .ok (.iload_n 1, 1) := db_X12_halfCopy_0.2.2.2.2.1
theorem dX12_halfCopy_7 : decode cX12_halfCopy 7 = .ok (.iaload, 1) := db_X12_halfCopy_0.2.2.2.2.2.1
theorem dX12_halfCopy_8 : decode cX12_halfCopy 8 = .ok (.invokevirtual 389, 3) := db_X12_halfCopy_0.2.2.2.2.2.2.1
theorem dX12_halfCopy_11 : decode cX12_halfCopy 11 = .ok (.istore_n 2, 1) := db_X12_halfCopy_0.2.2.2.2.2.2.2.1
theorem dX12_halfCopy_12 : decode cX12_halfCopy 12 = .ok (.aload_n 0, 1) := db_X12_halfCopy_0.2.2.2.2.2.2.2.2.1
theorem dX12_halfCopy_13 : decode cX12_halfCopy 13 = .ok (.iconst 5, 1) := db_X12_halfCopy_0.2.2.2.2.2.2.2.2.2.1
theorem dX12_halfCopy_14 : decode cX12_halfCopy 14 = .ok (.invokevirtual 374, 3) := db_X12_halfCopy_0.2.2.2.2.2.2.2.2.2.2.1
theorem dX12_halfCopy_17 : decode cX12_halfCopy 17 = .ok (.aload_n 0, 1) := db_X12_halfCopy_0.2.2.2.2.2.2.2.2.2.2.2.1
theorem dX12_halfCopy_18 : decode cX12_halfCopy 18 = .ok (.bipush 67, 2) := db_X12_halfCopy_0.2.2.2.2.2.2.2.2.2.2.2.2.1
theorem dX12_halfCopy_20 : decode cX12_halfCopy 20 = .ok (.invokevirtual 374, 3) := db_X12_halfCopy_0.2.2.2.2.2.2.2.2.2.2.2.2.2.1
theorem dX12_halfCopy_23 : decode cX12_halfCopy 23 = .ok (.aload_n 0, 1) := db_X12_halfCopy_0.2.2.2.2.2.2.2.2.2.2.2.2.2.2.1
theorem dX12_halfCopy_24 : decode cX12_halfCopy 24 = .ok (.aload_n 0, 1) := db_X12_halfCopy_0.2.2.2.2.2.2.2.2.2.2.2.2.2.2.2
theorem db_X12_halfCopy_25 : decode cX12_halfCopy 25 = .ok (.getfield 134, 3) ∧ decode cX12_halfCopy 28 = .ok (.iload_n 1, 1) ∧ decode cX12_halfCopy 29 = .ok (.iaload, 1) ∧ decode cX12_halfCopy 30 = .ok (.invokevirtual 383, 3) ∧ decode cX12_halfCopy 33 = .ok (.aload_n 0, 1) ∧ decode cX12_halfCopy 34 = .ok (.aload_n 0, 1) ∧ decode cX12_halfCopy 35 = .ok (.getfield 125, 3) ∧ decode cX12_halfCopy 38 = .ok (.iload_n 1, 1) ∧ decode cX12_halfCopy 39 = .ok (.iaload, 1) ∧ decode cX12_halfCopy 40 = .ok (.invokevirtual 383, 3) ∧ decode cX12_halfCopy 43 = .ok (.aload_n 0, 1) ∧ decode cX12_halfCopy 44 = .ok (.getfield 371, 3) ∧ decode cX12_halfCopy 47 = .ok (.istore_n 3, 1) ∧ decode cX12_halfCopy 48 = .ok (.iconst 0, 1) ∧ decode cX12_halfCopy 49 = .ok (.istore 4, 2) ∧ decode cX12_halfCopy 51 = .ok (.iload 4, 2) := by decide +kernel
theorem dX12_halfCopy_25 : decode cX12_halfCopy 25 = .ok (.getfield 134, 3) := db_X12_halfCopy_25.1
theorem dX12_halfCopy_28 : decode cX12_halfCopy 28 = .ok (.iload_n 1, 1) := db_X12_halfCopy_25.2.1
theorem dX12_halfCopy_29 : decode cX12_halfCopy 29 = .ok (.iaload, 1) := db_X12_halfCopy_25.2.2.1
theorem dX12_halfCopy_30 : decode cX12_halfCopy 30 = .ok (.invokevirtual 383, 3) := db_X12_halfCopy_25.2.2.2.1
theorem dX12_halfCopy_33 : decode cX12_halfCopy 33 = .ok (.aload_n 0, 1) := db_X12_halfCopy_25.2.2.2.2.1
theorem dX12_halfCopy_34 : decode cX12_halfCopy 34 = .ok (.aload_n 0, 1) := db_X12_halfCopy_25.2.2.2.2.2.1
theorem dX12_halfCopy_35 : decode cX12_halfCopy 35 = .ok (.getfield 125, 3) := db_X12_halfCopy_25.2.2.2.2.2.2.1
theorem dX12_halfCopy_38 : decode cX12_halfCopy 38 = .ok (.iload_n 1, 1) := db_X12_halfCopy_25.2.2.2.2.2.2.2.1
theorem dX12_halfCopy_39 : decode cX12_halfCopy 39 = .ok (.iaload, 1) := db_X12_halfCopy_25.2.2.2.2.2.2.2.2.1
theorem dX12_halfCopy_40 : decode cX12_halfCopy 40 = .ok (.invokevirtual 383, 3) := db_X12_halfCopy_25.2.2.2.2.2.2.2.2.2.1
theorem dX12_halfCopy_43 : decode cX12_halfCopy 43 = .ok (.aload_n 0, 1) := db_X12_halfCopy_25.2.2.2.2.2.2.2.2.2.2.1
theorem dX12_halfCopy_44 : decode cX12_halfCopy 44 = .ok (.getfield 371, 3) := db_X12_halfCopy_25.2.2.2.2.2.2.2.2.2.2.2.1
theorem dX12_halfCopy_47 : decode cX12_halfCopy 47 = .ok (.istore_n 3, 1) := db_X12_halfCopy_25.2.2.2.2.2.2.2.2.2.2.2.2.1
theorem dX12_halfCopy_48 : decode cX12_halfCopy 48 = .ok (.iconst 0, 1) := db_X12_halfCopy_25.2.2.2.2.2.2.2.2.2.2.2.2.2.1
theorem dX12_halfCopy_49 : decode cX12_halfCopy 49 = .ok (.istore 4, 2) := db_X12_halfCopy_25.2.2.2.2.2.2.2.2.2.2.2.2.2.2.1
theorem dX12_halfCopy_51 : decode cX12_halfCopy 51 = .ok (.iload 4, 2) := db_X12_halfCopy_25.2.2.2.2.2.2.2.2.2.2.2.2.2.2.2
theorem db_X12_halfCopy_53 : decode cX12_halfCopy 53 = .ok (.bipush 63, 2) ∧ decode cX12_halfCopy 55 = .ok (.if_icmp .ge 14, 3) ∧ decode cX12_halfCopy 58 = .ok (.aload_n 0, 1) ∧ decode cX12_halfCopy 59 = .ok (.iconst 0, 1) ∧ decode cX12_halfCopy 60 = .ok (.invokevirtual 374, 3) ∧ decode cX12_halfCopy 63 = .ok (.iinc 4 1, 3) ∧ decode cX12_halfCopy 66 = .ok (.goto (-15), 3) ∧ decode cX12_halfCopy 69 = .ok (.iload_n 2, 1) ∧ decode cX12_halfCopy 70 = .ok (.istore 4, 2) ∧ decode cX12_halfCopy 72 = .ok (.iload 4, 2) ∧ decode cX12_halfCopy 74 = .ok (.ifCond .eq 57, 3) ∧ decode cX12_halfCopy 131 = .ok (.aload_n 0, 1) ∧ decode cX12_halfCopy 132 = .ok (.sipush 255, 3) ∧ decode cX12_halfCopy 135 = .ok (.invokevirtual 374, 3) ∧ decode cX12_halfCopy 138 = .ok (.iload_n 1, 1) ∧ decode cX12_halfCopy 139 = .ok (.iconst 4, 1) := by decide +kernel
theorem dX12_halfCopy_53 : decode cX12_halfCopy 53 = .ok (.bipush 63, 2) := db_X12_halfCopy_53.1
theorem dX12_halfCopy_55 : decode cX12_halfCopy 55 = .ok (.if_icmp .ge 14, 3) := db_X12_halfCopy_53.2.1
theorem dX12_halfCopy_58 : decode cX12_halfCopy 58 = .ok (.aload_n 0, 1) := db_X12_halfCopy_53.2.2.1
theorem dX12_halfCopy_59 : decode cX12_halfCopy 59 = .ok (.iconst 0, 1) := db_X12_halfCopy_53.2.2.2.1
theorem dX12_halfCopy_60 : decode cX12_halfCopy 60 = .ok (.invokevirtual 374, 3) := db_X12_halfCopy_53.2.2.2.2.1
theorem dX12_halfCopy_63 : decode cX12_halfCopy 63 = .ok (.iinc 4 1, 3) := db_X12_halfCopy_53.2.2.2.2.2.1
theorem dX12_halfCopy_66 : decode cX12_halfCopy 66 = .ok (.goto (-15), 3) := db_X12_halfCopy_53.2.2.2.2.2.2.1
theorem dX12_halfCopy_69 : decode cX12_halfCopy 69 = .ok (.iload_n 2, 1) := db_X12_halfCopy_53.2.2.2.2.2.2.2.1
theorem dX12_halfCopy_70 : decode cX12_halfCopy 70 = .ok (.istore 4, 2) := db_X12_halfCopy_53.2.2.2.2.2.2.2.2.1
theorem dX12_halfCopy_72 : decode cX12_halfCopy 72 = .ok (.iload 4, 2) := db_X12_halfCopy_53.2.2.2.2.2.2.2.2.2.1
theorem dX12_halfCopy_74 : decode cX12_halfCopy 74 = .ok (.ifCond .eq 57, 3) := db_X12_halfCopy_53.2.2.2.2.2.2.2.2.2.2.1
theorem dX12_halfCopy_131 : decode cX12_halfCopy 131 = .ok (.aload_n 0, 1) := db_X12_halfCopy_53.2.2.2.2.2.2.2.2.2.2.2.1
theorem dX12_halfCopy_132 : decode cX12_halfCopy 132 = .ok (.sipush 255, 3) := db_X12_halfCopy_53.2.2.2.2.2.2.2.2.2.2.2.2.1
theorem dX12_halfCopy_135 : decode cX12_halfCopy 135 = .ok (.invokevirtual 374, 3) := db_X12_halfCopy_53.2.2.2.2.2.2.2.2.2.2.2.2.2.1
theorem dX12_halfCopy_138 : decode cX12_halfCopy 138 = .ok (.iload_n 1, 1) := db_X12_halfCopy_53.2.2.2.2.2.2.2.2.2.2.2.2.2.2.1
theorem dX12_halfCopy_139 : decode cX12_halfCopy 139 = .ok (.iconst 4, 1) := db_X12_halfCopy_53.2.2.2.2.2.2.2.2.2.2.2.2.2.2.2
theorem db_X12_halfCopy_140 : decode cX12_halfCopy 140 = .ok (.irem, 1) ∧ decode cX12_halfCopy 141 = .ok (.istore 4, 2) ∧ decode cX12_halfCopy 143 = .ok (.iload 4, 2) ∧ decode cX12_halfCopy 145 = .ok (.bipush 100, 2) ∧ decode cX12_halfCopy 147 = .ok (.if_icmp .ge 123, 3) ∧ decode cX12_halfCopy 150 = .ok (.iload 4, 2) ∧ decode cX12_halfCopy 152 = .ok (.aload_n 0, 1) ∧ decode cX12_halfCopy 153 = .ok (.getfield 327, 3) ∧ decode cX12_halfCopy 156 = .ok (.irem, 1) ∧ decode cX12_halfCopy 157 = .ok (.iload_n 1, 1) ∧ decode cX12_halfCopy 158 = .ok (.iconst 4, 1) ∧ decode cX12_halfCopy 159 = .ok (.irem, 1) ∧ decode cX12_halfCopy 160 = .ok (.if_icmp .ne 13, 3) ∧ decode cX12_halfCopy 163 = .ok (.aload_n 0, 1) ∧ decode cX12_halfCopy 164 = .ok (.iload_n 2, 1) ∧ decode cX12_halfCopy 165 = .ok (.iload 4, 2) := by decide +kernel
theorem dX12_halfCopy_140 : decode cX12_halfCopy 140 = .ok (.irem, 1) := db_X12_halfCopy_140.1
theorem dX12_halfCopy_141 : decode cX12_halfCopy 141 = .ok (.istore 4, 2) := db_X12_halfCopy_140.2.1
theorem dX12_halfCopy_143 : decode cX12_halfCopy 143 = .ok (.iload 4, 2) := db_X12_halfCopy_140.2.2.1
theorem dX12_halfCopy_145 : decode cX12_halfCopy 145 = .ok (.bipush 100, 2) := db_X12_halfCopy_140.2.2.2.1
theorem dX12_halfCopy_147 : decode cX12_halfCopy 147 = .ok (.if_icmp .ge 123, 3) := db_X12_halfCopy_140.2.2.2.2.1
theorem dX12_halfCopy_150 : decode cX12_halfCopy 150 = .ok (.iload 4, 2) := db_X12_halfCopy_140.2.2.2.2.2.1
theorem dX12_halfCopy_152 : decode cX12_halfCopy 152 = .ok (.aload_n 0, 1) := db_X12_halfCopy_140.2.2.2.2.2.2.1
theorem dX12_halfCopy_153 : decode cX12_halfCopy 153 = .ok (.getfield 327, 3) := db_X12_halfCopy_140.2.2.2.2.2.2.2.1
theorem dX12_halfCopy_156 : decode cX12_halfCopy 156 = .ok (.irem, 1) := db_X12_halfCopy_140.2.2.2.2.2.2.2.2.1
theorem dX12_halfCopy_157 : decode cX12_halfCopy 157 = .ok (.iload_n 1, 1) := db_X12_halfCopy_140.2.2.2.2.2.2.2.2.2.1
theorem dX12_halfCopy_158 : decode cX12_halfCopy 158 = .ok (.iconst 4, 1) := db_X12_halfCopy_140.2.2.2.2.2.2.2.2.2.2.1
theorem dX12_halfCopy_159 : decode cX12_halfCopy 159 = .ok (.irem, 1) := db_X12_halfCopy_140.2.2.2.2.2.2.2.2.2.2.2.1
theorem dX12_halfCopy_160 : decode cX12_halfCopy 160 = .ok (.if_icmp .ne 13, 3) := db_X12_halfCopy_140.2.2.2.2.2.2.2.2.2.2.2.2.1
theorem dX12_halfCopy_163 : decode cX12_halfCopy 163 = .ok (.aload_n 0, 1) := db_X12_halfCopy_140.2.2.2.2.2.2.2.2.2.2.2.2.2.1
theorem dX12_halfCopy_164 : decode cX12_halfCopy 164 = .ok (.iload_n 2, 1) := db_X12_halfCopy_140.2.2.2.2.2.2.2.2.2.2.2.2.2.2.1
theorem dX12_halfCopy_165 : decode cX12_halfCopy 165 = .ok (.iload 4, 2) := db_X12_halfCopy_140.2.2.2.2.2.2.2.2.2.2.2.2.2.2.2
theorem db_X12_halfCopy_167 : decode cX12_halfCopy 167 = .ok (.invokevirtual 392, 3) ∧ decode cX12_halfCopy 170 = .ok (.goto 4, 3) ∧ decode cX12_halfCopy 174 = .ok (.istore 5, 2) ∧ decode cX12_halfCopy 176 = .ok (.iload 5, 2) ∧ decode cX12_halfCopy 178 = .ok (.iconst (-1), 1) ∧ decode cX12_halfCopy 179 = .ok (.if_icmp .eq 79, 3) ∧ decode cX12_halfCopy 258 = .ok (.iload 4, 2) ∧ decode cX12_halfCopy 260 = .ok (.aload_n 0, 1) ∧ decode cX12_halfCopy 261 = .ok (.getfield 327, 3) ∧ decode cX12_halfCopy 264 = .ok (.iadd, 1) ∧ decode cX12_halfCopy 265 = .ok (.istore 4, 2) ∧ decode cX12_halfCopy 267 = .ok (.goto (-124), 3) ∧ decode cX12_halfCopy 270 = .ok (.aload_n 0, 1) ∧ decode cX12_halfCopy 271 = .ok (.iconst 4, 1) ∧ decode cX12_halfCopy 272 = .ok (.invokevirtual 374, 3) ∧ decode cX12_halfCopy 275 = .ok (.aload_n 0, 1) := by decide +kernel
theorem dX12_halfCopy_167 : decode cX12_halfCopy 167 = .ok (.invokevirtual 392, 3) := db_X12_halfCopy_167.1
theorem dX12_halfCopy_170 : decode cX12_halfCopy 170 = .ok (.goto 4, 3) := db_X12_halfCopy_167.2.1
theorem dX12_halfCopy_174 : decode cX12_halfCopy 174 = .ok (.istore 5, 2) := db_X12_halfCopy_167.2.2.1
theorem dX12_halfCopy_176 : decode cX12_halfCopy 176 = .ok (.iload 5, 2) := db_X12_halfCopy_167.2.2.2.1
theorem dX12_halfCopy_178 : decode cX12_halfCopy 178 = .ok (.iconst (-1), 1) := db_X12_halfCopy_167.2.2.2.2.1
theorem dX12_halfCopy_179 : decode cX12_halfCopy 179 = .ok (.if_icmp .eq 79, 3) := db_X12_halfCopy_167.2.2.2.2.2.1
theorem dX12_halfCopy_258 : decode cX12_halfCopy 258 = .ok (.iload 4, 2) := db_X12_halfCopy_167.2.2.2.2.2.2.1
theorem dX12_halfCopy_260 : decode cX12_halfCopy 260 = .ok (.aload_n 0, 1) := db_X12_halfCopy_167.2.2.2.2.2.2.2.1
theorem dX12_halfCopy_261 : decode cX12_halfCopy 261 = .ok (.getfield 327, 3) := db_X12_halfCopy_167.2.2.2.2.2.2.2.2.1
theorem dX12_halfCopy_264 : decode cX12_halfCopy 264 = .ok (.iadd, 1) := db_X12_halfCopy_167.2.2.2.2.2.2.2.2.2.1
theorem dX12_halfCopy_265 : decode cX12_halfCopy 265 = .ok (.istore 4, 2) := db_X12_halfCopy_167.2.2.2.2.2.2.2.2.2.2.1
theorem dX12_halfCopy_267 : decode cX12_halfCopy 267 = .ok (.goto (-124), 3) := db_X12_halfCopy_167.2.2.2.2.2.2.2.2.2.2.2.1
theorem dX12_halfCopy_270 : decode cX12_halfCopy 270 = .ok (.aload_n 0, 1) := db_X12_halfCopy_167.2.2.2.2.2.2.2.2.2.2.2.2.1
theorem dX12_halfCopy_271 : decode cX12_halfCopy 271 = .ok (.iconst 4, 1) := db_X12_halfCopy_167.2.2.2.2.2.2.2.2.2.2.2.2.2.1
theorem dX12_halfCopy_272 : decode cX12_halfCopy 272 = .ok (.invokevirtual 374, 3) := db_X12_halfCopy_167.2.2.2.2.2.2.2.2.2.2.2.2.2.2.1
theorem dX12_halfCopy_275 : decode cX12_halfCopy 275 = .ok (.aload_n 0, 1) := db_X12_halfCopy_167.2.2.2.2.2.2.2.2.2.2.2.2.2.2.2
theorem db_X12_halfCopy_276 : decode cX12_halfCopy 276 = .ok (.iconst 2, 1) ∧ decode cX12_halfCopy 277 = .ok (.invokevirtual 374, 3) ∧ decode cX12_halfCopy 280 = .ok (.aload_n 0, 1) ∧ decode cX12_halfCopy 281 = .ok (.aload_n 0, 1) ∧ decode cX12_halfCopy 282 = .ok (.getfield 137, 3) ∧ decode cX12_halfCopy 285 = .ok (.iload_n 1, 1) ∧ decode cX12_halfCopy 286 = .ok (.iaload, 1) ∧ decode cX12_halfCopy 287 = .ok (.invokevirtual 383, 3) ∧ decode cX12_halfCopy 290 = .ok (.aload_n 0, 1) ∧ decode cX12_halfCopy 291 = .ok (.sipush 255, 3) ∧ decode cX12_halfCopy 294 = .ok (.invokevirtual 374, 3) ∧ decode cX12_halfCopy 297 = .ok (.aload_n 0, 1) ∧ decode cX12_halfCopy 298 = .ok (.getfield 134, 3) ∧ decode cX12_halfCopy 301 = .ok (.iload_n 1, 1) ∧ decode cX12_halfCopy 302 = .ok (.iaload, 1) ∧ decode cX12_halfCopy 303 = .ok (.iconst 1, 1) := by decide +kernel
theorem dX12_halfCopy_276 : decode cX12_halfCopy 276 = .ok (.iconst 2, 1) := db_X12_halfCopy_276.1
theorem dX12_halfCopy_277 : decode cX12_halfCopy 277 = .ok (.invokevirtual 374, 3) := db_X12_halfCopy_276.2.1
theorem dX12_halfCopy_280 : decode cX12_halfCopy 280 = .ok (.aload_n 0, 1) := db_X12_halfCopy_276.2.2.1
theorem dX12_halfCopy_281 : decode cX12_halfCopy 281 = .ok (.aload_n 0, 1) := db_X12_halfCopy_276.2.2.2.1
theorem dX12_halfCopy_282 : decode cX12_halfCopy 282 = .ok (.getfield 137, 3) := db_X12_halfCopy_276.2.2.2.2.1
theorem dX12_halfCopy_285 : decode cX12_halfCopy 285 = .ok (.iload_n 1, 1) := db_X12_halfCopy_276.2.2.2.2.2.1
theorem dX12_halfCopy_286 : decode cX12_halfCopy 286 = .ok (.iaload, 1) := db_X12_halfCopy_276.2.2.2.2.2.2.1
theorem dX12_halfCopy_287 : decode cX12_halfCopy 287 = .ok (.invokevirtual 383, 3) := db_X12_halfCopy_276.2.2.2.2.2.2.2.1
theorem dX12_halfCopy_290 : decode cX12_halfCopy 290 = .ok (.aload_n 0, 1) := db_X12_halfCopy_276.2.2.2.2.2.2.2.2.1
theorem dX12_halfCopy_291 : decode cX12_halfCopy 291 = .ok (.sipush 255, 3) := db_X12_halfCopy_276.2.2.2.2.2.2.2.2.2.1
theorem dX12_halfCopy_294 : decode cX12_halfCopy 294 = .ok (.invokevirtual 374, 3) := db_X12_halfCopy_276.2.2.2.2.2.2.2.2.2.2.1
theorem dX12_halfCopy_297 : decode cX12_halfCopy 297 = .ok (.aload_n 0, 1) := db_X12_halfCopy_276.2.2.2.2.2.2.2.2.2.2.2.1
theorem dX12_halfCopy_298 : decode cX12_halfCopy 298 = .ok (.getfield 134, 3) := db_X12_halfCopy_276.2.2.2.2.2.2.2.2.2.2.2.2.1
theorem dX12_halfCopy_301 : decode cX12_halfCopy 301 = .ok (.iload_n 1, 1) := db_X12_halfCopy_276.2.2.2.2.2.2.2.2.2.2.2.2.2.1
theorem dX12_halfCopy_302 : decode cX12_halfCopy 302 = .ok (.iaload, 1) := db_X12_halfCopy_276.2.2.2.2.2.2.2.2.2.2.2.2.2.2.1
theorem dX12_halfCopy_303 : decode cX12_halfCopy 303 = .ok (.iconst 1, 1) := db_X12_halfCopy_276.2.2.2.2.2.2.2.2.2.2.2.2.2.2.2
theorem db_X12_halfCopy_304 : decode cX12_halfCopy 304 = .ok (.iadd, 1) ∧ decode cX12_halfCopy 305 = .ok (.istore 4, 2) ∧ decode cX12_halfCopy 307 = .ok (.iload 4, 2) ∧ decode cX12_halfCopy 309 = .ok (.aload_n 0, 1) ∧ decode cX12_halfCopy 310 = .ok (.getfield 131, 3) ∧ decode cX12_halfCopy 313 = .ok (.iload_n 1, 1) ∧ decode cX12_halfCopy 314 = .ok (.iaload, 1) ∧ decode cX12_halfCopy 315 = .ok (.if_icmp .gt 28, 3) ∧ decode cX12_halfCopy 343 = .ok (.return_, 1) := by decide +kernel
theorem dX12_halfCopy_304 : decode cX12_halfCopy 304 = .ok (.iadd, 1) := db_X12_halfCopy_304.1
theorem dX12_halfCopy_305 : decode cX12_halfCopy 305 = .ok (.istore 4, 2) := db_X12_halfCopy_304.2.1
theorem dX12_halfCopy_307 : decode cX12_halfCopy 307 = .ok (.iload 4, 2) := db_X12_halfCopy_304.2.2.1
theorem dX12_halfCopy_309 : decode cX12_halfCopy 309 = .ok (.aload_n 0, 1) := db_X12_halfCopy_304.2.2.2.1
theorem dX12_halfCopy_310 : decode cX12_halfCopy 310 = .ok (.getfield 131, 3) := db_X12_halfCopy_304.2.2.2.2.1
theorem dX12_halfCopy_313 : decode cX12_halfCopy 313 = .ok (.iload_n 1, 1) := db_X12_halfCopy_304.2.2.2.2.2.1
theorem dX12_halfCopy_314 : decode cX12_halfCopy 314 = .ok (.iaload, 1) := db_X12_halfCopy_304.2.2.2.2.2.2.1
theorem dX12_halfCopy_315 : decode cX12_halfCopy 315 = .ok (.if_icmp .gt 28, 3) := db_X12_halfCopy_304.2.2.2.2.2.2.2.1
theorem dX12_halfCopy_343 : decode cX12_halfCopy 343 = .ok (.return_, 1) := db_X12_halfCopy_304.2.2.2.2.2.2.2.2
