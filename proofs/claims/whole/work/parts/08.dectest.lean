theorem dX3_init_0 : decode cX3_init 0 = .ok (.aload_n 0, 1) := by decide +kernel
theorem dX3_init_1 : decode cX3_init 1 = .ok (.invokespecial 3, 3) := by decide +kernel
theorem dX3_init_4 : decode cX3_init 4 = .ok (.aload_n 0, 1) := by decide +kernel
theorem dX3_init_5 : decode cX3_init 5 = .ok (.iconst 4, 1) := by decide +kernel
theorem dX3_init_6 : decode cX3_init 6 = .ok (.putfield 9, 3) := by decide +kernel
theorem dX3_init_9 : decode cX3_init 9 = .ok (.aload_n 0, 1) := by decide +kernel
theorem dX3_init_10 : decode cX3_init 10 = .ok (.bipush 7, 2) := by decide +kernel
theorem dX3_init_12 : decode cX3_init 12 = .ok (.newarray .long, 2) := by decide +kernel
theorem dX3_init_14 : decode cX3_init 14 = .ok (.putfield 15, 3) := by decide +kernel
theorem dX3_init_17 : decode cX3_init 17 = .ok (.aload_n 0, 1) := by decide +kernel
theorem dX3_init_18 : decode cX3_init 18 = .ok (.iconst 5, 1) := by decide +kernel
theorem dX3_init_19 : decode cX3_init 19 = .ok (.newarray .long, 2) := by decide +kernel
theorem dX3_init_21 : decode cX3_init 21 = .ok (.putfield 19, 3) := by decide +kernel
theorem dX3_init_24 : decode cX3_init 24 = .ok (.aload_n 0, 1) := by decide +kernel
theorem dX3_init_25 : decode cX3_init 25 = .ok (.bipush 10, 2) := by decide +kernel
theorem dX3_init_27 : decode cX3_init 27 = .ok (.newarray .int, 2) := by decide +kernel
theorem dX3_init_29 : decode cX3_init 29 = .ok (.putfield 22, 3) := by decide +kernel
theorem dX3_init_32 : decode cX3_init 32 = .ok (.aload_n 0, 1) := by decide +kernel
theorem dX3_init_33 : decode cX3_init 33 = .ok (.bipush 10, 2) := by decide +kernel
theorem dX3_init_35 : decode cX3_init 35 = .ok (.newarray .int, 2) := by decide +kernel
theorem dX3_init_37 : decode cX3_init 37 = .ok (.putfield 26, 3) := by decide +kernel
theorem dX3_init_40 : decode cX3_init 40 = .ok (.aload_n 0, 1) := by decide +kernel
theorem dX3_init_41 : decode cX3_init 41 = .ok (.bipush 10, 2) := by decide +kernel
theorem dX3_init_43 : decode cX3_init 43 = .ok (.newarray .int, 2) := by decide +kernel
theorem dX3_init_45 : decode cX3_init 45 = .ok (.putfield 29, 3) := by decide +kernel
theorem dX3_init_48 : decode cX3_init 48 = .ok (.aload_n 0, 1) := by decide +kernel
theorem dX3_init_49 : decode cX3_init 49 = .ok (.bipush 7, 2) := by decide +kernel
theorem dX3_init_51 : decode cX3_init 51 = .ok (.newarray .int, 2) := by decide +kernel
theorem dX3_init_53 : decode cX3_init 53 = .ok (.putfield 32, 3) := by decide +kernel
theorem dX3_init_56 : decode cX3_init 56 = .ok (.aload_n 0, 1) := by decide +kernel
theorem dX3_init_57 : decode cX3_init 57 = .ok (.bipush 28, 2) := by decide +kernel
theorem dX3_init_59 : decode cX3_init 59 = .ok (.newarray .int, 2) := by decide +kernel
theorem dX3_init_61 : decode cX3_init 61 = .ok (.putfield 35, 3) := by decide +kernel
theorem dX3_init_64 : decode cX3_init 64 = .ok (.aload_n 0, 1) := by decide +kernel
theorem dX3_init_65 : decode cX3_init 65 = .ok (.iconst 5, 1) := by decide +kernel
theorem dX3_init_66 : decode cX3_init 66 = .ok (.newarray .int, 2) := by decide +kernel
theorem dX3_init_68 : decode cX3_init 68 = .ok (.putfield 38, 3) := by decide +kernel
theorem dX3_init_71 : decode cX3_init 71 = .ok (.aload_n 0, 1) := by decide +kernel
theorem dX3_init_72 : decode cX3_init 72 = .ok (.iconst 5, 1) := by decide +kernel
theorem dX3_init_73 : decode cX3_init 73 = .ok (.newarray .int, 2) := by decide +kernel
theorem dX3_init_75 : decode cX3_init 75 = .ok (.putfield 41, 3) := by decide +kernel
theorem dX3_init_78 : decode cX3_init 78 = .ok (.aload_n 0, 1) := by decide +kernel
theorem dX3_init_79 : decode cX3_init 79 = .ok (.iconst 5, 1) := by decide +kernel
theorem dX3_init_80 : decode cX3_init 80 = .ok (.newarray .int, 2) := by decide +kernel
theorem dX3_init_82 : decode cX3_init 82 = .ok (.putfield 44, 3) := by decide +kernel
theorem dX3_init_85 : decode cX3_init 85 = .ok (.aload_n 0, 1) := by decide +kernel
theorem dX3_init_86 : decode cX3_init 86 = .ok (.iconst 5, 1) := by decide +kernel
theorem dX3_init_87 : decode cX3_init 87 = .ok (.newarray .int, 2) := by decide +kernel
theorem dX3_init_89 : decode cX3_init 89 = .ok (.putfield 47, 3) := by decide +kernel
theorem dX3_init_92 : decode cX3_init 92 = .ok (.aload_n 0, 1) := by decide +kernel
theorem dX3_init_93 : decode cX3_init 93 = .ok (.bipush 40, 2) := by decide +kernel
theorem dX3_init_95 : decode cX3_init 95 = .ok (.newarray .int, 2) := by decide +kernel
theorem dX3_init_97 : decode cX3_init 97 = .ok (.putfield 50, 3) := by decide +kernel
theorem dX3_init_100 : decode cX3_init 100 = .ok (.return_, 1) := by decide +kernel
theorem dX3_clear_0 : decode cX3_clear 0 = .ok (.aload_n 0, 1) := by decide +kernel
theorem dX3_clear_1 : decode cX3_clear 1 = .ok (.iconst 0, 1) := by decide +kernel
theorem dX3_clear_2 : decode cX3_clear 2 = .ok (.putfield 53, 3) := by decide +kernel
theorem dX3_clear_5 : decode cX3_clear 5 = .ok (.aload_n 0, 1) := by decide +kernel
theorem dX3_clear_6 : decode cX3_clear 6 = .ok (.iconst 0, 1) := by decide +kernel
theorem dX3_clear_7 : decode cX3_clear 7 = .ok (.putfield 56, 3) := by decide +kernel
theorem dX3_clear_10 : decode cX3_clear 10 = .ok (.aload_n 0, 1) := by decide +kernel
theorem dX3_clear_11 : decode cX3_clear 11 = .ok (.iconst 0, 1) := by decide +kernel
theorem dX3_clear_12 : decode cX3_clear 12 = .ok (.putfield 59, 3) := by decide +kernel
theorem dX3_clear_15 : decode cX3_clear 15 = .ok (.aload_n 0, 1) := by decide +kernel
theorem dX3_clear_16 : decode cX3_clear 16 = .ok (.iconst 0, 1) := by decide +kernel
theorem dX3_clear_17 : decode cX3_clear 17 = .ok (.putfield 62, 3) := by decide +kernel
theorem dX3_clear_20 : decode cX3_clear 20 = .ok (.aload_n 0, 1) := by decide +kernel
theorem dX3_clear_21 : decode cX3_clear 21 = .ok (.iconst 4, 1) := by decide +kernel
theorem dX3_clear_22 : decode cX3_clear 22 = .ok (.putfield 9, 3) := by decide +kernel
theorem dX3_clear_25 : decode cX3_clear 25 = .ok (.aload_n 0, 1) := by decide +kernel
theorem dX3_clear_26 : decode cX3_clear 26 = .ok (.iconst 0, 1) := by decide +kernel
theorem dX3_clear_27 : decode cX3_clear 27 = .ok (.putfield 65, 3) := by decide +kernel
theorem dX3_clear_30 : decode cX3_clear 30 = .ok (.aload_n 0, 1) := by decide +kernel
theorem dX3_clear_31 : decode cX3_clear 31 = .ok (.iconst 0, 1) := by decide +kernel
theorem dX3_clear_32 : decode cX3_clear 32 = .ok (.putfield 68, 3) := by decide +kernel
theorem dX3_clear_35 : decode cX3_clear 35 = .ok (.return_, 1) := by decide +kernel
theorem dX3_copyFrom_0 : decode cX3_copyFrom 0 = .ok (.aload_n 0, 1) := by decide +kernel
theorem dX3_copyFrom_1 : decode cX3_copyFrom 1 = .ok (.aload_n 1, 1) := by decide +kernel
theorem dX3_copyFrom_2 : decode cX3_copyFrom 2 = .ok (.getfield 53, 3) := by decide +kernel
theorem dX3_copyFrom_5 : decode cX3_copyFrom 5 = .ok (.putfield 53, 3) := by decide +kernel
theorem dX3_copyFrom_8 : decode cX3_copyFrom 8 = .ok (.aload_n 0, 1) := by decide +kernel
theorem dX3_copyFrom_9 : decode cX3_copyFrom 9 = .ok (.aload_n 1, 1) := by decide +kernel
theorem dX3_copyFrom_10 : decode cX3_copyFrom 10 = .ok (.getfield 56, 3) := by decide +kernel
theorem dX3_copyFrom_13 : decode cX3_copyFrom 13 = .ok (.putfield 56, 3) := by decide +kernel
theorem dX3_copyFrom_16 : decode cX3_copyFrom 16 = .ok (.aload_n 0, 1) := by decide +kernel
theorem dX3_copyFrom_17 : decode cX3_copyFrom 17 = .ok (.aload_n 1, 1) := by decide +kernel
theorem dX3_copyFrom_18 : decode cX3_copyFrom 18 = .ok (.getfield 59, 3) := by decide +kernel
theorem dX3_copyFrom_21 : decode cX3_copyFrom 21 = .ok (.putfield 59, 3) := by decide +kernel
theorem dX3_copyFrom_24 : decode cX3_copyFrom 24 = .ok (.aload_n 0, 1) := by decide +kernel
theorem dX3_copyFrom_25 : decode cX3_copyFrom 25 = .ok (.aload_n 1, 1) := by decide +kernel
theorem dX3_copyFrom_26 : decode cX3_copyFrom 26 = .ok (.getfield 62, 3) := by decide +kernel
theorem dX3_copyFrom_29 : decode cX3_copyFrom 29 = .ok (.putfield 62, 3) := by decide +kernel
theorem dX3_copyFrom_32 : decode cX3_copyFrom 32 = .ok (.aload_n 0, 1) := by decide +kernel
theorem dX3_copyFrom_33 : decode cX3_copyFrom 33 = .ok (.aload_n 1, 1) := by decide +kernel
theorem dX3_copyFrom_34 : decode cX3_copyFrom 34 = .ok (.getfield 9, 3) := by decide +kernel
theorem dX3_copyFrom_37 : decode cX3_copyFrom 37 = .ok (.putfield 9, 3) := by decide +kernel
theorem dX3_copyFrom_40 : decode cX3_copyFrom 40 = .ok (.aload_n 0, 1) := by decide +kernel
theorem dX3_copyFrom_41 : decode cX3_copyFrom 41 = .ok (.aload_n 1, 1) := by decide +kernel
theorem dX3_copyFrom_42 : decode cX3_copyFrom 42 = .ok (.getfield 65, 3) := by decide +kernel
theorem dX3_copyFrom_45 : decode cX3_copyFrom 45 = .ok (.putfield 65, 3) := by decide +kernel
theorem dX3_copyFrom_48 : decode cX3_copyFrom 48 = .ok (.aload_n 0, 1) := by decide +kernel
theorem dX3_copyFrom_49 : decode cX3_copyFrom 49 = .ok (.aload_n 1, 1) := by decide +kernel
theorem dX3_copyFrom_50 : decode cX3_copyFrom 50 = .ok (.getfield 68, 3) := by decide +kernel
theorem dX3_copyFrom_53 : decode cX3_copyFrom 53 = .ok (.putfield 68, 3) := by decide +kernel
theorem dX3_copyFrom_56 : decode cX3_copyFrom 56 = .ok (.aload_n 1, 1) := by decide +kernel
theorem dX3_copyFrom_57 : decode cX3_copyFrom 57 = .ok (.getfield 15, 3) := by decide +kernel
theorem dX3_copyFrom_60 : decode cX3_copyFrom 60 = .ok (.iconst 0, 1) := by decide +kernel
theorem dX3_copyFrom_61 : decode cX3_copyFrom 61 = .ok (.aload_n 0, 1) := by decide +kernel
theorem dX3_copyFrom_62 : decode cX3_copyFrom 62 = .ok (.getfield 15, 3) := by decide +kernel
theorem dX3_copyFrom_65 : decode cX3_copyFrom 65 = .ok (.iconst 0, 1) := by decide +kernel
theorem dX3_copyFrom_66 : decode cX3_copyFrom 66 = .ok (.aload_n 0, 1) := by decide +kernel
theorem dX3_copyFrom_67 : decode cX3_copyFrom 67 = .ok (.getfield 15, 3) := by decide +kernel
theorem dX3_copyFrom_70 : decode cX3_copyFrom 70 = .ok (.arraylength, 1) := by decide +kernel
theorem dX3_copyFrom_71 : decode cX3_copyFrom 71 = .ok (.invokestatic 71, 3) := by decide +kernel
theorem dX3_copyFrom_74 : decode cX3_copyFrom 74 = .ok (.aload_n 1, 1) := by decide +kernel
theorem dX3_copyFrom_75 : decode cX3_copyFrom 75 = .ok (.getfield 19, 3) := by decide +kernel
theorem dX3_copyFrom_78 : decode cX3_copyFrom 78 = .ok (.iconst 0, 1) := by decide +kernel
theorem dX3_copyFrom_79 : decode cX3_copyFrom 79 = .ok (.aload_n 0, 1) := by decide +kernel
theorem dX3_copyFrom_80 : decode cX3_copyFrom 80 = .ok (.getfield 19, 3) := by decide +kernel
theorem dX3_copyFrom_83 : decode cX3_copyFrom 83 = .ok (.iconst 0, 1) := by decide +kernel
theorem dX3_copyFrom_84 : decode cX3_copyFrom 84 = .ok (.aload_n 0, 1) := by decide +kernel
theorem dX3_copyFrom_85 : decode cX3_copyFrom 85 = .ok (.getfield 19, 3) := by decide +kernel
theorem dX3_copyFrom_88 : decode cX3_copyFrom 88 = .ok (.arraylength, 1) := by decide +kernel
theorem dX3_copyFrom_89 : decode cX3_copyFrom 89 = .ok (.invokestatic 71, 3) := by decide +kernel
theorem dX3_copyFrom_92 : decode cX3_copyFrom 92 = .ok (.aload_n 1, 1) := by decide +kernel
theorem dX3_copyFrom_93 : decode cX3_copyFrom 93 = .ok (.getfield 22, 3) := by decide +kernel
theorem dX3_copyFrom_96 : decode cX3_copyFrom 96 = .ok (.iconst 0, 1) := by decide +kernel
theorem dX3_copyFrom_97 : decode cX3_copyFrom 97 = .ok (.aload_n 0, 1) := by decide +kernel
theorem dX3_copyFrom_98 : decode cX3_copyFrom 98 = .ok (.getfield 22, 3) := by decide +kernel
theorem dX3_copyFrom_101 : decode cX3_copyFrom 101 = .ok (.iconst 0, 1) := by decide +kernel
theorem dX3_copyFrom_102 : decode cX3_copyFrom 102 = .ok (.aload_n 0, 1) := by decide +kernel
theorem dX3_copyFrom_103 : decode cX3_copyFrom 103 = .ok (.getfield 22, 3) := by decide +kernel
theorem dX3_copyFrom_106 : decode cX3_copyFrom 106 = .ok (.arraylength, 1) := by decide +kernel
theorem dX3_copyFrom_107 : decode cX3_copyFrom 107 = .ok (.invokestatic 71, 3) := by decide +kernel
theorem dX3_copyFrom_110 : decode cX3_copyFrom 110 = .ok (.aload_n 1, 1) := by decide +kernel
theorem dX3_copyFrom_111 : decode cX3_copyFrom 111 = .ok (.getfield 26, 3) := by decide +kernel
theorem dX3_copyFrom_114 : decode cX3_copyFrom 114 = .ok (.iconst 0, 1) := by decide +kernel
theorem dX3_copyFrom_115 : decode cX3_copyFrom 115 = .ok (.aload_n 0, 1) := by decide +kernel
theorem dX3_copyFrom_116 : decode cX3_copyFrom 116 = .ok (.getfield 26, 3) := by decide +kernel
theorem dX3_copyFrom_119 : decode cX3_copyFrom 119 = .ok (.iconst 0, 1) := by decide +kernel
theorem dX3_copyFrom_120 : decode cX3_copyFrom 120 = .ok (.aload_n 0, 1) := by decide +kernel
theorem dX3_copyFrom_121 : decode cX3_copyFrom 121 = .ok (.getfield 26, 3) := by decide +kernel
theorem dX3_copyFrom_124 : decode cX3_copyFrom 124 = .ok (.arraylength, 1) := by decide +kernel
theorem dX3_copyFrom_125 : decode cX3_copyFrom 125 = .ok (.invokestatic 71, 3) := by decide +kernel
theorem dX3_copyFrom_128 : decode cX3_copyFrom 128 = .ok (.aload_n 1, 1) := by decide +kernel
theorem dX3_copyFrom_129 : decode cX3_copyFrom 129 = .ok (.getfield 29, 3) := by decide +kernel
theorem dX3_copyFrom_132 : decode cX3_copyFrom 132 = .ok (.iconst 0, 1) := by decide +kernel
theorem dX3_copyFrom_133 : decode cX3_copyFrom 133 = .ok (.aload_n 0, 1) := by decide +kernel
theorem dX3_copyFrom_134 : decode cX3_copyFrom 134 = .ok (.getfield 29, 3) := by decide +kernel
theorem dX3_copyFrom_137 : decode cX3_copyFrom 137 = .ok (.iconst 0, 1) := by decide +kernel
theorem dX3_copyFrom_138 : decode cX3_copyFrom 138 = .ok (.aload_n 0, 1) := by decide +kernel
theorem dX3_copyFrom_139 : decode cX3_copyFrom 139 = .ok (.getfield 29, 3) := by decide +kernel
theorem dX3_copyFrom_142 : decode cX3_copyFrom 142 = .ok (.arraylength, 1) := by decide +kernel
theorem dX3_copyFrom_143 : decode cX3_copyFrom 143 = .ok (.invokestatic 71, 3) := by decide +kernel
theorem dX3_copyFrom_146 : decode cX3_copyFrom 146 = .ok (.aload_n 1, 1) := by decide +kernel
theorem dX3_copyFrom_147 : decode cX3_copyFrom 147 = .ok (.getfield 32, 3) := by decide +kernel
theorem dX3_copyFrom_150 : decode cX3_copyFrom 150 = .ok (.iconst 0, 1) := by decide +kernel
theorem dX3_copyFrom_151 : decode cX3_copyFrom 151 = .ok (.aload_n 0, 1) := by decide +kernel
theorem dX3_copyFrom_152 : decode cX3_copyFrom 152 = .ok (.getfield 32, 3) := by decide +kernel
theorem dX3_copyFrom_155 : decode cX3_copyFrom 155 = .ok (.iconst 0, 1) := by decide +kernel
theorem dX3_copyFrom_156 : decode cX3_copyFrom 156 = .ok (.aload_n 0, 1) := by decide +kernel
theorem dX3_copyFrom_157 : decode cX3_copyFrom 157 = .ok (.getfield 32, 3) := by decide +kernel
theorem dX3_copyFrom_160 : decode cX3_copyFrom 160 = .ok (.arraylength, 1) := by decide +kernel
theorem dX3_copyFrom_161 : decode cX3_copyFrom 161 = .ok (.invokestatic 71, 3) := by decide +kernel
theorem dX3_copyFrom_164 : decode cX3_copyFrom 164 = .ok (.aload_n 1, 1) := by decide +kernel
theorem dX3_copyFrom_165 : decode cX3_copyFrom 165 = .ok (.getfield 35, 3) := by decide +kernel
theorem dX3_copyFrom_168 : decode cX3_copyFrom 168 = .ok (.iconst 0, 1) := by decide +kernel
theorem dX3_copyFrom_169 : decode cX3_copyFrom 169 = .ok (.aload_n 0, 1) := by decide +kernel
theorem dX3_copyFrom_170 : decode cX3_copyFrom 170 = .ok (.getfield 35, 3) := by decide +kernel
theorem dX3_copyFrom_173 : decode cX3_copyFrom 173 = .ok (.iconst 0, 1) := by decide +kernel
theorem dX3_copyFrom_174 : decode cX3_copyFrom 174 = .ok (.aload_n 0, 1) := by decide +kernel
theorem dX3_copyFrom_175 : decode cX3_copyFrom 175 = .ok (.getfield 35, 3) := by decide +kernel
theorem dX3_copyFrom_178 : decode cX3_copyFrom 178 = .ok (.arraylength, 1) := by decide +kernel
theorem dX3_copyFrom_179 : decode cX3_copyFrom 179 = .ok (.invokestatic 71, 3) := by decide +kernel
theorem dX3_copyFrom_182 : decode cX3_copyFrom 182 = .ok (.aload_n 1, 1) := by decide +kernel
theorem dX3_copyFrom_183 : decode cX3_copyFrom 183 = .ok (.getfield 38, 3) := by decide +kernel
theorem dX3_copyFrom_186 : decode cX3_copyFrom 186 = .ok (.iconst 0, 1) := by decide +kernel
theorem dX3_copyFrom_187 : decode cX3_copyFrom 187 = .ok (.aload_n 0, 1) := by decide +kernel
theorem dX3_copyFrom_188 : decode cX3_copyFrom 188 = .ok (.getfield 38, 3) := by decide +kernel
theorem dX3_copyFrom_191 : decode cX3_copyFrom 191 = .ok (.iconst 0, 1) := by decide +kernel
theorem dX3_copyFrom_192 : decode cX3_copyFrom 192 = .ok (.aload_n 0, 1) := by decide +kernel
theorem dX3_copyFrom_193 : decode cX3_copyFrom 193 = .ok (.getfield 38, 3) := by decide +kernel
theorem dX3_copyFrom_196 : decode cX3_copyFrom 196 = .ok (.arraylength, 1) := by decide +kernel
theorem dX3_copyFrom_197 : decode cX3_copyFrom 197 = .ok (.invokestatic 71, 3) := by decide +kernel
theorem dX3_copyFrom_200 : decode cX3_copyFrom 200 = .ok (.aload_n 1, 1) := by decide +kernel
theorem dX3_copyFrom_201 : decode cX3_copyFrom 201 = .ok (.getfield 41, 3) := by decide +kernel
theorem dX3_copyFrom_204 : decode cX3_copyFrom 204 = .ok (.iconst 0, 1) := by decide +kernel
theorem dX3_copyFrom_205 : decode cX3_copyFrom 205 = .ok (.aload_n 0, 1) := by decide +kernel
theorem dX3_copyFrom_206 : decode cX3_copyFrom 206 = .ok (.getfield 41, 3) := by decide +kernel
theorem dX3_copyFrom_209 : decode cX3_copyFrom 209 = .ok (.iconst 0, 1) := by decide +kernel
theorem dX3_copyFrom_210 : decode cX3_copyFrom 210 = .ok (.aload_n 0, 1) := by decide +kernel
theorem dX3_copyFrom_211 : decode cX3_copyFrom 211 = .ok (.getfield 41, 3) := by decide +kernel
theorem dX3_copyFrom_214 : decode cX3_copyFrom 214 = .ok (.arraylength, 1) := by decide +kernel
theorem dX3_copyFrom_215 : decode cX3_copyFrom 215 = .ok (.invokestatic 71, 3) := by decide +kernel
theorem dX3_copyFrom_218 : decode cX3_copyFrom 218 = .ok (.aload_n 1, 1) := by decide +kernel
theorem dX3_copyFrom_219 : decode cX3_copyFrom 219 = .ok (.getfield 44, 3) := by decide +kernel
theorem dX3_copyFrom_222 : decode cX3_copyFrom 222 = .ok (.iconst 0, 1) := by decide +kernel
theorem dX3_copyFrom_223 : decode cX3_copyFrom 223 = .ok (.aload_n 0, 1) := by decide +kernel
theorem dX3_copyFrom_224 : decode cX3_copyFrom 224 = .ok (.getfield 44, 3) := by decide +kernel
theorem dX3_copyFrom_227 : decode cX3_copyFrom 227 = .ok (.iconst 0, 1) := by decide +kernel
theorem dX3_copyFrom_228 : decode cX3_copyFrom 228 = .ok (.aload_n 0, 1) := by decide +kernel
theorem dX3_copyFrom_229 : decode cX3_copyFrom 229 = .ok (.getfield 44, 3) := by decide +kernel
theorem dX3_copyFrom_232 : decode cX3_copyFrom 232 = .ok (.arraylength, 1) := by decide +kernel
theorem dX3_copyFrom_233 : decode cX3_copyFrom 233 = .ok (.invokestatic 71, 3) := by decide +kernel
theorem dX3_copyFrom_236 : decode cX3_copyFrom 236 = .ok (.aload_n 1, 1) := by decide +kernel
theorem dX3_copyFrom_237 : decode cX3_copyFrom 237 = .ok (.getfield 47, 3) := by decide +kernel
theorem dX3_copyFrom_240 : decode cX3_copyFrom 240 = .ok (.iconst 0, 1) := by decide +kernel
theorem dX3_copyFrom_241 : decode cX3_copyFrom 241 = .ok (.aload_n 0, 1) := by decide +kernel
theorem dX3_copyFrom_242 : decode cX3_copyFrom 242 = .ok (.getfield 47, 3) := by decide +kernel
theorem dX3_copyFrom_245 : decode cX3_copyFrom 245 = .ok (.iconst 0, 1) := by decide +kernel
theorem dX3_copyFrom_246 : decode cX3_copyFrom 246 = .ok (.aload_n 0, 1) := by decide +kernel
theorem dX3_copyFrom_247 : decode cX3_copyFrom 247 = .ok (.getfield 47, 3) := by decide +kernel
theorem dX3_copyFrom_250 : decode cX3_copyFrom 250 = .ok (.arraylength, 1) := by decide +kernel
theorem dX3_copyFrom_251 : decode cX3_copyFrom 251 = .ok (.invokestatic 71, 3) := by decide +kernel
theorem dX3_copyFrom_254 : decode cX3_copyFrom 254 = .ok (.aload_n 1, 1) := by decide +kernel
theorem dX3_copyFrom_255 : decode cX3_copyFrom 255 = .ok (.getfield 50, 3) := by decide +kernel
theorem dX3_copyFrom_258 : decode cX3_copyFrom 258 = .ok (.iconst 0, 1) := by decide +kernel
theorem dX3_copyFrom_259 : decode cX3_copyFrom 259 = .ok (.aload_n 0, 1) := by decide +kernel
theorem dX3_copyFrom_260 : decode cX3_copyFrom 260 = .ok (.getfield 50, 3) := by decide +kernel
theorem dX3_copyFrom_263 : decode cX3_copyFrom 263 = .ok (.iconst 0, 1) := by decide +kernel
theorem dX3_copyFrom_264 : decode cX3_copyFrom 264 = .ok (.aload_n 0, 1) := by decide +kernel
theorem dX3_copyFrom_265 : decode cX3_copyFrom 265 = .ok (.getfield 50, 3) := by decide +kernel
theorem dX3_copyFrom_268 : decode cX3_copyFrom 268 = .ok (.arraylength, 1) := by decide +kernel
theorem dX3_copyFrom_269 : decode cX3_copyFrom 269 = .ok (.invokestatic 71, 3) := by decide +kernel
theorem dX3_copyFrom_272 : decode cX3_copyFrom 272 = .ok (.return_, 1) := by decide +kernel
theorem dX3_hasRoom_0 : decode cX3_hasRoom 0 = .ok (.iload_n 1, 1) := by decide +kernel
theorem dX3_hasRoom_1 : decode cX3_hasRoom 1 = .ok (.ifCond .lt 15, 3) := by decide +kernel
theorem dX3_hasRoom_4 : decode cX3_hasRoom 4 = .ok (.iload_n 1, 1) := by decide +kernel
theorem dX3_hasRoom_5 : decode cX3_hasRoom 5 = .ok (.aload_n 0, 1) := by decide +kernel
theorem dX3_hasRoom_6 : decode cX3_hasRoom 6 = .ok (.getfield 53, 3) := by decide +kernel
theorem dX3_hasRoom_9 : decode cX3_hasRoom 9 = .ok (.if_icmp .ge 7, 3) := by decide +kernel
theorem dX3_hasRoom_12 : decode cX3_hasRoom 12 = .ok (.iconst 1, 1) := by decide +kernel
theorem dX3_hasRoom_13 : decode cX3_hasRoom 13 = .ok (.goto 4, 3) := by decide +kernel
theorem dX3_hasRoom_16 : decode cX3_hasRoom 16 = .ok (.iconst 0, 1) := by decide +kernel
theorem dX3_hasRoom_17 : decode cX3_hasRoom 17 = .ok (.ireturn, 1) := by decide +kernel
theorem dX3_hasDoor_0 : decode cX3_hasDoor 0 = .ok (.iload_n 1, 1) := by decide +kernel
theorem dX3_hasDoor_1 : decode cX3_hasDoor 1 = .ok (.ifCond .lt 15, 3) := by decide +kernel
theorem dX3_hasDoor_4 : decode cX3_hasDoor 4 = .ok (.iload_n 1, 1) := by decide +kernel
theorem dX3_hasDoor_5 : decode cX3_hasDoor 5 = .ok (.aload_n 0, 1) := by decide +kernel
theorem dX3_hasDoor_6 : decode cX3_hasDoor 6 = .ok (.getfield 56, 3) := by decide +kernel
theorem dX3_hasDoor_9 : decode cX3_hasDoor 9 = .ok (.if_icmp .ge 7, 3) := by decide +kernel
theorem dX3_hasDoor_12 : decode cX3_hasDoor 12 = .ok (.iconst 1, 1) := by decide +kernel
theorem dX3_hasDoor_13 : decode cX3_hasDoor 13 = .ok (.goto 4, 3) := by decide +kernel
theorem dX3_hasDoor_16 : decode cX3_hasDoor 16 = .ok (.iconst 0, 1) := by decide +kernel
theorem dX3_hasDoor_17 : decode cX3_hasDoor 17 = .ok (.ireturn, 1) := by decide +kernel
theorem dX3_hasWord_0 : decode cX3_hasWord 0 = .ok (.iload_n 1, 1) := by decide +kernel
theorem dX3_hasWord_1 : decode cX3_hasWord 1 = .ok (.ifCond .lt 15, 3) := by decide +kernel
theorem dX3_hasWord_4 : decode cX3_hasWord 4 = .ok (.iload_n 1, 1) := by decide +kernel
theorem dX3_hasWord_5 : decode cX3_hasWord 5 = .ok (.aload_n 0, 1) := by decide +kernel
theorem dX3_hasWord_6 : decode cX3_hasWord 6 = .ok (.getfield 59, 3) := by decide +kernel
theorem dX3_hasWord_9 : decode cX3_hasWord 9 = .ok (.if_icmp .ge 7, 3) := by decide +kernel
theorem dX3_hasWord_12 : decode cX3_hasWord 12 = .ok (.iconst 1, 1) := by decide +kernel
theorem dX3_hasWord_13 : decode cX3_hasWord 13 = .ok (.goto 4, 3) := by decide +kernel
theorem dX3_hasWord_16 : decode cX3_hasWord 16 = .ok (.iconst 0, 1) := by decide +kernel
theorem dX3_hasWord_17 : decode cX3_hasWord 17 = .ok (.ireturn, 1) := by decide +kernel
theorem dX3_hasPerson_0 : decode cX3_hasPerson 0 = .ok (.iload_n 1, 1) := by decide +kernel
theorem dX3_hasPerson_1 : decode cX3_hasPerson 1 = .ok (.ifCond .lt 15, 3) := by decide +kernel
theorem dX3_hasPerson_4 : decode cX3_hasPerson 4 = .ok (.iload_n 1, 1) := by decide +kernel
theorem dX3_hasPerson_5 : decode cX3_hasPerson 5 = .ok (.aload_n 0, 1) := by decide +kernel
theorem dX3_hasPerson_6 : decode cX3_hasPerson 6 = .ok (.getfield 62, 3) := by decide +kernel
theorem dX3_hasPerson_9 : decode cX3_hasPerson 9 = .ok (.if_icmp .ge 7, 3) := by decide +kernel
theorem dX3_hasPerson_12 : decode cX3_hasPerson 12 = .ok (.iconst 1, 1) := by decide +kernel
theorem dX3_hasPerson_13 : decode cX3_hasPerson 13 = .ok (.goto 4, 3) := by decide +kernel
theorem dX3_hasPerson_16 : decode cX3_hasPerson 16 = .ok (.iconst 0, 1) := by decide +kernel
theorem dX3_hasPerson_17 : decode cX3_hasPerson 17 = .ok (.ireturn, 1) := by decide +kernel
theorem dX3_isOpen_0 : decode cX3_isOpen 0 = .ok (.aload_n 0, 1) := by decide +kernel
theorem dX3_isOpen_1 : decode cX3_isOpen 1 = .ok (.getfield 65, 3) := by decide +kernel
theorem dX3_isOpen_4 : decode cX3_isOpen 4 = .ok (.iload_n 1, 1) := by decide +kernel
theorem dX3_isOpen_5 : decode cX3_isOpen 5 = .ok (.invokestatic 77, 3) := by decide +kernel
theorem dX3_isOpen_8 : decode cX3_isOpen 8 = .ok (.ireturn, 1) := by decide +kernel
theorem dX3_isAt_0 : decode cX3_isAt 0 = .ok (.aload_n 0, 1) := by decide +kernel
theorem dX3_isAt_1 : decode cX3_isAt 1 = .ok (.iload_n 1, 1) := by decide +kernel
theorem dX3_isAt_2 : decode cX3_isAt 2 = .ok (.invokevirtual 81, 3) := by decide +kernel
theorem dX3_isAt_5 : decode cX3_isAt 5 = .ok (.ifCond .eq 11, 3) := by decide +kernel
theorem dX3_isAt_8 : decode cX3_isAt 8 = .ok (.aload_n 0, 1) := by decide +kernel
theorem dX3_isAt_9 : decode cX3_isAt 9 = .ok (.iload_n 2, 1) := by decide +kernel
theorem dX3_isAt_10 : decode cX3_isAt 10 = .ok (.invokevirtual 85, 3) := by decide +kernel
theorem dX3_isAt_13 : decode cX3_isAt 13 = .ok (.ifCond .ne 5, 3) := by decide +kernel
theorem dX3_isAt_16 : decode cX3_isAt 16 = .ok (.iconst 0, 1) := by decide +kernel
theorem dX3_isAt_17 : decode cX3_isAt 17 = .ok (.ireturn, 1) := by decide +kernel
theorem dX3_isAt_18 : decode cX3_isAt 18 = .ok (.aload_n 0, 1) := by decide +kernel
theorem dX3_isAt_19 : decode cX3_isAt 19 = .ok (.getfield 38, 3) := by decide +kernel
theorem dX3_isAt_22 : decode cX3_isAt 22 = .ok (.iload_n 1, 1) := by decide +kernel
theorem dX3_isAt_23 : decode cX3_isAt 23 = .ok (.iaload, 1) := by decide +kernel
theorem dX3_isAt_24 : decode cX3_isAt 24 = .ok (.istore_n 3, 1) := by decide +kernel
theorem dX3_isAt_25 : decode cX3_isAt 25 = .ok (.iload_n 3, 1) := by decide +kernel
theorem dX3_isAt_26 : decode cX3_isAt 26 = .ok (.aload_n 0, 1) := by decide +kernel
theorem dX3_isAt_27 : decode cX3_isAt 27 = .ok (.getfield 22, 3) := by decide +kernel
theorem dX3_isAt_30 : decode cX3_isAt 30 = .ok (.iload_n 2, 1) := by decide +kernel
theorem dX3_isAt_31 : decode cX3_isAt 31 = .ok (.iaload, 1) := by decide +kernel
theorem dX3_isAt_32 : decode cX3_isAt 32 = .ok (.if_icmp .eq 13, 3) := by decide +kernel
theorem dX3_isAt_35 : decode cX3_isAt 35 = .ok (.iload_n 3, 1) := by decide +kernel
theorem dX3_isAt_36 : decode cX3_isAt 36 = .ok (.aload_n 0, 1) := by decide +kernel
theorem dX3_isAt_37 : decode cX3_isAt 37 = .ok (.getfield 26, 3) := by decide +kernel
theorem dX3_isAt_40 : decode cX3_isAt 40 = .ok (.iload_n 2, 1) := by decide +kernel
theorem dX3_isAt_41 : decode cX3_isAt 41 = .ok (.iaload, 1) := by decide +kernel
theorem dX3_isAt_42 : decode cX3_isAt 42 = .ok (.if_icmp .ne 7, 3) := by decide +kernel
theorem dX3_isAt_45 : decode cX3_isAt 45 = .ok (.iconst 1, 1) := by decide +kernel
theorem dX3_isAt_46 : decode cX3_isAt 46 = .ok (.goto 4, 3) := by decide +kernel
theorem dX3_isAt_49 : decode cX3_isAt 49 = .ok (.iconst 0, 1) := by decide +kernel
theorem dX3_isAt_50 : decode cX3_isAt 50 = .ok (.ireturn, 1) := by decide +kernel
theorem dX3_roomsOfDoor_0 : decode cX3_roomsOfDoor 0 = .ok (.iconst 1, 1) := by decide +kernel
theorem dX3_roomsOfDoor_1 : decode cX3_roomsOfDoor 1 = .ok (.aload_n 0, 1) := by decide +kernel
theorem dX3_roomsOfDoor_2 : decode cX3_roomsOfDoor 2 = .ok (.getfield 22, 3) := by decide +kernel
theorem dX3_roomsOfDoor_5 : decode cX3_roomsOfDoor 5 = .ok (.iload_n 1, 1) := by decide +kernel
theorem dX3_roomsOfDoor_6 : decode cX3_roomsOfDoor 6 = .ok (.iaload, 1) := by decide +kernel
theorem dX3_roomsOfDoor_7 : decode cX3_roomsOfDoor 7 = .ok (.ishl, 1) := by decide +kernel
theorem dX3_roomsOfDoor_8 : decode cX3_roomsOfDoor 8 = .ok (.iconst 1, 1) := by decide +kernel
theorem dX3_roomsOfDoor_9 : decode cX3_roomsOfDoor 9 = .ok (.aload_n 0, 1) := by decide +kernel
theorem dX3_roomsOfDoor_10 : decode cX3_roomsOfDoor 10 = .ok (.getfield 26, 3) := by decide +kernel
theorem dX3_roomsOfDoor_13 : decode cX3_roomsOfDoor 13 = .ok (.iload_n 1, 1) := by decide +kernel
theorem dX3_roomsOfDoor_14 : decode cX3_roomsOfDoor 14 = .ok (.iaload, 1) := by decide +kernel
theorem dX3_roomsOfDoor_15 : decode cX3_roomsOfDoor 15 = .ok (.ishl, 1) := by decide +kernel
theorem dX3_roomsOfDoor_16 : decode cX3_roomsOfDoor 16 = .ok (.ior, 1) := by decide +kernel
theorem dX3_roomsOfDoor_17 : decode cX3_roomsOfDoor 17 = .ok (.ireturn, 1) := by decide +kernel
theorem dX3_unshut_0 : decode cX3_unshut 0 = .ok (.aload_n 0, 1) := by decide +kernel
theorem dX3_unshut_1 : decode cX3_unshut 1 = .ok (.dup, 1) := by decide +kernel
theorem dX3_unshut_2 : decode cX3_unshut 2 = .ok (.getfield 65, 3) := by decide +kernel
theorem dX3_unshut_5 : decode cX3_unshut 5 = .ok (.iconst 1, 1) := by decide +kernel
theorem dX3_unshut_6 : decode cX3_unshut 6 = .ok (.iload_n 1, 1) := by decide +kernel
theorem dX3_unshut_7 : decode cX3_unshut 7 = .ok (.ishl, 1) := by decide +kernel
theorem dX3_unshut_8 : decode cX3_unshut 8 = .ok (.ior, 1) := by decide +kernel
theorem dX3_unshut_9 : decode cX3_unshut 9 = .ok (.putfield 65, 3) := by decide +kernel
theorem dX3_unshut_12 : decode cX3_unshut 12 = .ok (.return_, 1) := by decide +kernel
theorem dX3_shutDoor_0 : decode cX3_shutDoor 0 = .ok (.aload_n 0, 1) := by decide +kernel
theorem dX3_shutDoor_1 : decode cX3_shutDoor 1 = .ok (.dup, 1) := by decide +kernel
theorem dX3_shutDoor_2 : decode cX3_shutDoor 2 = .ok (.getfield 65, 3) := by decide +kernel
theorem dX3_shutDoor_5 : decode cX3_shutDoor 5 = .ok (.iconst 1, 1) := by decide +kernel
theorem dX3_shutDoor_6 : decode cX3_shutDoor 6 = .ok (.iload_n 1, 1) := by decide +kernel
theorem dX3_shutDoor_7 : decode cX3_shutDoor 7 = .ok (.ishl, 1) := by decide +kernel
theorem dX3_shutDoor_8 : decode cX3_shutDoor 8 = .ok (.iconst (-1), 1) := by decide +kernel
theorem dX3_shutDoor_9 : decode cX3_shutDoor 9 = .ok (.ixor, 1) := by decide +kernel
theorem dX3_shutDoor_10 : decode cX3_shutDoor 10 = .ok (.iand, 1) := by decide +kernel
theorem dX3_shutDoor_11 : decode cX3_shutDoor 11 = .ok (.putfield 65, 3) := by decide +kernel
theorem dX3_shutDoor_14 : decode cX3_shutDoor 14 = .ok (.return_, 1) := by decide +kernel
theorem dX3_passThrough_0 : decode cX3_passThrough 0 = .ok (.aload_n 0, 1) := by decide +kernel
theorem dX3_passThrough_1 : decode cX3_passThrough 1 = .ok (.getfield 38, 3) := by decide +kernel
theorem dX3_passThrough_4 : decode cX3_passThrough 4 = .ok (.iload_n 1, 1) := by decide +kernel
theorem dX3_passThrough_5 : decode cX3_passThrough 5 = .ok (.aload_n 0, 1) := by decide +kernel
theorem dX3_passThrough_6 : decode cX3_passThrough 6 = .ok (.getfield 38, 3) := by decide +kernel
theorem dX3_passThrough_9 : decode cX3_passThrough 9 = .ok (.iload_n 1, 1) := by decide +kernel
theorem dX3_passThrough_10 : decode cX3_passThrough 10 = .ok (.iaload, 1) := by decide +kernel
theorem dX3_passThrough_11 : decode cX3_passThrough 11 = .ok (.aload_n 0, 1) := by decide +kernel
theorem dX3_passThrough_12 : decode cX3_passThrough 12 = .ok (.getfield 22, 3) := by decide +kernel
theorem dX3_passThrough_15 : decode cX3_passThrough 15 = .ok (.iload_n 2, 1) := by decide +kernel
theorem dX3_passThrough_16 : decode cX3_passThrough 16 = .ok (.iaload, 1) := by decide +kernel
theorem dX3_passThrough_17 : decode cX3_passThrough 17 = .ok (.if_icmp .ne 12, 3) := by decide +kernel
theorem dX3_passThrough_20 : decode cX3_passThrough 20 = .ok (.aload_n 0, 1) := by decide +kernel
theorem dX3_passThrough_21 : decode cX3_passThrough 21 = .ok (.getfield 26, 3) := by decide +kernel
theorem dX3_passThrough_24 : decode cX3_passThrough 24 = .ok (.iload_n 2, 1) := by decide +kernel
theorem dX3_passThrough_25 : decode cX3_passThrough 25 = .ok (.iaload, 1) := by decide +kernel
theorem dX3_passThrough_26 : decode cX3_passThrough 26 = .ok (.goto 9, 3) := by decide +kernel
theorem dX3_passThrough_29 : decode cX3_passThrough 29 = .ok (.aload_n 0, 1) := by decide +kernel
theorem dX3_passThrough_30 : decode cX3_passThrough 30 = .ok (.getfield 22, 3) := by decide +kernel
theorem dX3_passThrough_33 : decode cX3_passThrough 33 = .ok (.iload_n 2, 1) := by decide +kernel
theorem dX3_passThrough_34 : decode cX3_passThrough 34 = .ok (.iaload, 1) := by decide +kernel
theorem dX3_passThrough_35 : decode cX3_passThrough 35 = .ok (.iastore, 1) := by decide +kernel
theorem dX3_passThrough_36 : decode cX3_passThrough 36 = .ok (.return_, 1) := by decide +kernel
theorem dX3_soundOfWord_0 : decode cX3_soundOfWord 0 = .ok (.aload_n 0, 1) := by decide +kernel
theorem dX3_soundOfWord_1 : decode cX3_soundOfWord 1 = .ok (.getfield 35, 3) := by decide +kernel
theorem dX3_soundOfWord_4 : decode cX3_soundOfWord 4 = .ok (.iload_n 1, 1) := by decide +kernel
theorem dX3_soundOfWord_5 : decode cX3_soundOfWord 5 = .ok (.iconst 4, 1) := by decide +kernel
theorem dX3_soundOfWord_6 : decode cX3_soundOfWord 6 = .ok (.imul, 1) := by decide +kernel
theorem dX3_soundOfWord_7 : decode cX3_soundOfWord 7 = .ok (.iload_n 2, 1) := by decide +kernel
theorem dX3_soundOfWord_8 : decode cX3_soundOfWord 8 = .ok (.iadd, 1) := by decide +kernel
theorem dX3_soundOfWord_9 : decode cX3_soundOfWord 9 = .ok (.iaload, 1) := by decide +kernel
theorem dX3_soundOfWord_10 : decode cX3_soundOfWord 10 = .ok (.ireturn, 1) := by decide +kernel
theorem dX3_addRoom_0 : decode cX3_addRoom 0 = .ok (.aload_n 0, 1) := by decide +kernel
theorem dX3_addRoom_1 : decode cX3_addRoom 1 = .ok (.getfield 53, 3) := by decide +kernel
theorem dX3_addRoom_4 : decode cX3_addRoom 4 = .ok (.bipush 7, 2) := by decide +kernel
theorem dX3_addRoom_6 : decode cX3_addRoom 6 = .ok (.if_icmp .ge 23, 3) := by decide +kernel
theorem dX3_addRoom_9 : decode cX3_addRoom 9 = .ok (.aload_n 0, 1) := by decide +kernel
theorem dX3_addRoom_10 : decode cX3_addRoom 10 = .ok (.getfield 15, 3) := by decide +kernel
theorem dX3_addRoom_13 : decode cX3_addRoom 13 = .ok (.aload_n 0, 1) := by decide +kernel
theorem dX3_addRoom_14 : decode cX3_addRoom 14 = .ok (.getfield 53, 3) := by decide +kernel
theorem dX3_addRoom_17 : decode cX3_addRoom 17 = .ok (.lload_n 1, 1) := by decide +kernel
theorem dX3_addRoom_18 : decode cX3_addRoom 18 = .ok (.lastore, 1) := by decide +kernel
theorem dX3_addRoom_19 : decode cX3_addRoom 19 = .ok (.aload_n 0, 1) := by decide +kernel
theorem dX3_addRoom_20 : decode cX3_addRoom 20 = .ok (.dup, 1) := by decide +kernel
theorem dX3_addRoom_21 : decode cX3_addRoom 21 = .ok (.getfield 53, 3) := by decide +kernel
theorem dX3_addRoom_24 : decode cX3_addRoom 24 = .ok (.iconst 1, 1) := by decide +kernel
theorem dX3_addRoom_25 : decode cX3_addRoom 25 = .ok (.iadd, 1) := by decide +kernel
theorem dX3_addRoom_26 : decode cX3_addRoom 26 = .ok (.putfield 53, 3) := by decide +kernel
theorem dX3_addRoom_29 : decode cX3_addRoom 29 = .ok (.return_, 1) := by decide +kernel
theorem dX3_addDoor_0 : decode cX3_addDoor 0 = .ok (.aload_n 0, 1) := by decide +kernel
theorem dX3_addDoor_1 : decode cX3_addDoor 1 = .ok (.getfield 56, 3) := by decide +kernel
theorem dX3_addDoor_4 : decode cX3_addDoor 4 = .ok (.bipush 10, 2) := by decide +kernel
theorem dX3_addDoor_6 : decode cX3_addDoor 6 = .ok (.if_icmp .ge 56, 3) := by decide +kernel
theorem dX3_addDoor_9 : decode cX3_addDoor 9 = .ok (.aload_n 0, 1) := by decide +kernel
theorem dX3_addDoor_10 : decode cX3_addDoor 10 = .ok (.getfield 22, 3) := by decide +kernel
theorem dX3_addDoor_13 : decode cX3_addDoor 13 = .ok (.aload_n 0, 1) := by decide +kernel
theorem dX3_addDoor_14 : decode cX3_addDoor 14 = .ok (.getfield 56, 3) := by decide +kernel
theorem dX3_addDoor_17 : decode cX3_addDoor 17 = .ok (.iload_n 1, 1) := by decide +kernel
theorem dX3_addDoor_18 : decode cX3_addDoor 18 = .ok (.iastore, 1) := by decide +kernel
theorem dX3_addDoor_19 : decode cX3_addDoor 19 = .ok (.aload_n 0, 1) := by decide +kernel
theorem dX3_addDoor_20 : decode cX3_addDoor 20 = .ok (.getfield 26, 3) := by decide +kernel
theorem dX3_addDoor_23 : decode cX3_addDoor 23 = .ok (.aload_n 0, 1) := by decide +kernel
theorem dX3_addDoor_24 : decode cX3_addDoor 24 = .ok (.getfield 56, 3) := by decide +kernel
theorem dX3_addDoor_27 : decode cX3_addDoor 27 = .ok (.iload_n 2, 1) := by decide +kernel
theorem dX3_addDoor_28 : decode cX3_addDoor 28 = .ok (.iastore, 1) := by decide +kernel
theorem dX3_addDoor_29 : decode cX3_addDoor 29 = .ok (.aload_n 0, 1) := by decide +kernel
theorem dX3_addDoor_30 : decode cX3_addDoor 30 = .ok (.getfield 29, 3) := by decide +kernel
theorem dX3_addDoor_33 : decode cX3_addDoor 33 = .ok (.aload_n 0, 1) := by decide +kernel
theorem dX3_addDoor_34 : decode cX3_addDoor 34 = .ok (.getfield 56, 3) := by decide +kernel
theorem dX3_addDoor_37 : decode cX3_addDoor 37 = .ok (.iload_n 3, 1) := by decide +kernel
theorem dX3_addDoor_38 : decode cX3_addDoor 38 = .ok (.iastore, 1) := by decide +kernel
theorem dX3_addDoor_39 : decode cX3_addDoor 39 = .ok (.iload 4, 2) := by decide +kernel
theorem dX3_addDoor_41 : decode cX3_addDoor 41 = .ok (.ifCond .eq 11, 3) := by decide +kernel
theorem dX3_addDoor_44 : decode cX3_addDoor 44 = .ok (.aload_n 0, 1) := by decide +kernel
theorem dX3_addDoor_45 : decode cX3_addDoor 45 = .ok (.aload_n 0, 1) := by decide +kernel
theorem dX3_addDoor_46 : decode cX3_addDoor 46 = .ok (.getfield 56, 3) := by decide +kernel
theorem dX3_addDoor_49 : decode cX3_addDoor 49 = .ok (.invokevirtual 88, 3) := by decide +kernel
theorem dX3_addDoor_52 : decode cX3_addDoor 52 = .ok (.aload_n 0, 1) := by decide +kernel
theorem dX3_addDoor_53 : decode cX3_addDoor 53 = .ok (.dup, 1) := by decide +kernel
theorem dX3_addDoor_54 : decode cX3_addDoor 54 = .ok (.getfield 56, 3) := by decide +kernel
theorem dX3_addDoor_57 : decode cX3_addDoor 57 = .ok (.iconst 1, 1) := by decide +kernel
theorem dX3_addDoor_58 : decode cX3_addDoor 58 = .ok (.iadd, 1) := by decide +kernel
theorem dX3_addDoor_59 : decode cX3_addDoor 59 = .ok (.putfield 56, 3) := by decide +kernel
theorem dX3_addDoor_62 : decode cX3_addDoor 62 = .ok (.return_, 1) := by decide +kernel
theorem dX3_addPerson_0 : decode cX3_addPerson 0 = .ok (.aload_n 0, 1) := by decide +kernel
theorem dX3_addPerson_1 : decode cX3_addPerson 1 = .ok (.getfield 62, 3) := by decide +kernel
theorem dX3_addPerson_4 : decode cX3_addPerson 4 = .ok (.iconst 5, 1) := by decide +kernel
theorem dX3_addPerson_5 : decode cX3_addPerson 5 = .ok (.if_icmp .ge 63, 3) := by decide +kernel
theorem dX3_addPerson_8 : decode cX3_addPerson 8 = .ok (.aload_n 0, 1) := by decide +kernel
theorem dX3_addPerson_9 : decode cX3_addPerson 9 = .ok (.getfield 19, 3) := by decide +kernel
theorem dX3_addPerson_12 : decode cX3_addPerson 12 = .ok (.aload_n 0, 1) := by decide +kernel
theorem dX3_addPerson_13 : decode cX3_addPerson 13 = .ok (.getfield 62, 3) := by decide +kernel
theorem dX3_addPerson_16 : decode cX3_addPerson 16 = .ok (.lload_n 1, 1) := by decide +kernel
theorem dX3_addPerson_17 : decode cX3_addPerson 17 = .ok (.lastore, 1) := by decide +kernel
theorem dX3_addPerson_18 : decode cX3_addPerson 18 = .ok (.aload_n 0, 1) := by decide +kernel
theorem dX3_addPerson_19 : decode cX3_addPerson 19 = .ok (.getfield 38, 3) := by decide +kernel
theorem dX3_addPerson_22 : decode cX3_addPerson 22 = .ok (.aload_n 0, 1) := by decide +kernel
theorem dX3_addPerson_23 : decode cX3_addPerson 23 = .ok (.getfield 62, 3) := by decide +kernel
theorem dX3_addPerson_26 : decode cX3_addPerson 26 = .ok (.iload_n 3, 1) := by decide +kernel
theorem dX3_addPerson_27 : decode cX3_addPerson 27 = .ok (.iastore, 1) := by decide +kernel
theorem dX3_addPerson_28 : decode cX3_addPerson 28 = .ok (.aload_n 0, 1) := by decide +kernel
theorem dX3_addPerson_29 : decode cX3_addPerson 29 = .ok (.getfield 41, 3) := by decide +kernel
theorem dX3_addPerson_32 : decode cX3_addPerson 32 = .ok (.aload_n 0, 1) := by decide +kernel
theorem dX3_addPerson_33 : decode cX3_addPerson 33 = .ok (.getfield 62, 3) := by decide +kernel
theorem dX3_addPerson_36 : decode cX3_addPerson 36 = .ok (.iconst 0, 1) := by decide +kernel
theorem dX3_addPerson_37 : decode cX3_addPerson 37 = .ok (.iastore, 1) := by decide +kernel
theorem dX3_addPerson_38 : decode cX3_addPerson 38 = .ok (.aload_n 0, 1) := by decide +kernel
theorem dX3_addPerson_39 : decode cX3_addPerson 39 = .ok (.getfield 44, 3) := by decide +kernel
theorem dX3_addPerson_42 : decode cX3_addPerson 42 = .ok (.aload_n 0, 1) := by decide +kernel
theorem dX3_addPerson_43 : decode cX3_addPerson 43 = .ok (.getfield 62, 3) := by decide +kernel
theorem dX3_addPerson_46 : decode cX3_addPerson 46 = .ok (.iconst 0, 1) := by decide +kernel
theorem dX3_addPerson_47 : decode cX3_addPerson 47 = .ok (.iastore, 1) := by decide +kernel
theorem dX3_addPerson_48 : decode cX3_addPerson 48 = .ok (.aload_n 0, 1) := by decide +kernel
theorem dX3_addPerson_49 : decode cX3_addPerson 49 = .ok (.getfield 47, 3) := by decide +kernel
theorem dX3_addPerson_52 : decode cX3_addPerson 52 = .ok (.aload_n 0, 1) := by decide +kernel
theorem dX3_addPerson_53 : decode cX3_addPerson 53 = .ok (.getfield 62, 3) := by decide +kernel
theorem dX3_addPerson_56 : decode cX3_addPerson 56 = .ok (.iconst 0, 1) := by decide +kernel
theorem dX3_addPerson_57 : decode cX3_addPerson 57 = .ok (.iastore, 1) := by decide +kernel
theorem dX3_addPerson_58 : decode cX3_addPerson 58 = .ok (.aload_n 0, 1) := by decide +kernel
theorem dX3_addPerson_59 : decode cX3_addPerson 59 = .ok (.dup, 1) := by decide +kernel
theorem dX3_addPerson_60 : decode cX3_addPerson 60 = .ok (.getfield 62, 3) := by decide +kernel
theorem dX3_addPerson_63 : decode cX3_addPerson 63 = .ok (.iconst 1, 1) := by decide +kernel
theorem dX3_addPerson_64 : decode cX3_addPerson 64 = .ok (.iadd, 1) := by decide +kernel
theorem dX3_addPerson_65 : decode cX3_addPerson 65 = .ok (.putfield 62, 3) := by decide +kernel
theorem dX3_addPerson_68 : decode cX3_addPerson 68 = .ok (.return_, 1) := by decide +kernel
theorem dX3_beginWord_0 : decode cX3_beginWord 0 = .ok (.aload_n 0, 1) := by decide +kernel
theorem dX3_beginWord_1 : decode cX3_beginWord 1 = .ok (.getfield 59, 3) := by decide +kernel
theorem dX3_beginWord_4 : decode cX3_beginWord 4 = .ok (.bipush 7, 2) := by decide +kernel
theorem dX3_beginWord_6 : decode cX3_beginWord 6 = .ok (.if_icmp .ge 13, 3) := by decide +kernel
theorem dX3_beginWord_9 : decode cX3_beginWord 9 = .ok (.aload_n 0, 1) := by decide +kernel
theorem dX3_beginWord_10 : decode cX3_beginWord 10 = .ok (.getfield 32, 3) := by decide +kernel
theorem dX3_beginWord_13 : decode cX3_beginWord 13 = .ok (.aload_n 0, 1) := by decide +kernel
theorem dX3_beginWord_14 : decode cX3_beginWord 14 = .ok (.getfield 59, 3) := by decide +kernel
theorem dX3_beginWord_17 : decode cX3_beginWord 17 = .ok (.iconst 0, 1) := by decide +kernel
theorem dX3_beginWord_18 : decode cX3_beginWord 18 = .ok (.iastore, 1) := by decide +kernel
theorem dX3_beginWord_19 : decode cX3_beginWord 19 = .ok (.return_, 1) := by decide +kernel
theorem dX3_addSound_0 : decode cX3_addSound 0 = .ok (.aload_n 0, 1) := by decide +kernel
theorem dX3_addSound_1 : decode cX3_addSound 1 = .ok (.getfield 59, 3) := by decide +kernel
theorem dX3_addSound_4 : decode cX3_addSound 4 = .ok (.bipush 7, 2) := by decide +kernel
theorem dX3_addSound_6 : decode cX3_addSound 6 = .ok (.if_icmp .ge 51, 3) := by decide +kernel
theorem dX3_addSound_9 : decode cX3_addSound 9 = .ok (.aload_n 0, 1) := by decide +kernel
theorem dX3_addSound_10 : decode cX3_addSound 10 = .ok (.getfield 32, 3) := by decide +kernel
theorem dX3_addSound_13 : decode cX3_addSound 13 = .ok (.aload_n 0, 1) := by decide +kernel
theorem dX3_addSound_14 : decode cX3_addSound 14 = .ok (.getfield 59, 3) := by decide +kernel
theorem dX3_addSound_17 : decode cX3_addSound 17 = .ok (.iaload, 1) := by decide +kernel
theorem dX3_addSound_18 : decode cX3_addSound 18 = .ok (.iconst 4, 1) := by decide +kernel
theorem dX3_addSound_19 : decode cX3_addSound 19 = .ok (.if_icmp .ge 38, 3) := by decide +kernel
theorem dX3_addSound_22 : decode cX3_addSound 22 = .ok (.aload_n 0, 1) := by decide +kernel
theorem dX3_addSound_23 : decode cX3_addSound 23 = .ok (.getfield 35, 3) := by decide +kernel
theorem dX3_addSound_26 : decode cX3_addSound 26 = .ok (.aload_n 0, 1) := by decide +kernel
theorem dX3_addSound_27 : decode cX3_addSound 27 = .ok (.getfield 59, 3) := by decide +kernel
theorem dX3_addSound_30 : decode cX3_addSound 30 = .ok (.iconst 4, 1) := by decide +kernel
theorem dX3_addSound_31 : decode cX3_addSound 31 = .ok (.imul, 1) := by decide +kernel
theorem dX3_addSound_32 : decode cX3_addSound 32 = .ok (.aload_n 0, 1) := by decide +kernel
theorem dX3_addSound_33 : decode cX3_addSound 33 = .ok (.getfield 32, 3) := by decide +kernel
theorem dX3_addSound_36 : decode cX3_addSound 36 = .ok (.aload_n 0, 1) := by decide +kernel
theorem dX3_addSound_37 : decode cX3_addSound 37 = .ok (.getfield 59, 3) := by decide +kernel
theorem dX3_addSound_40 : decode cX3_addSound 40 = .ok (.iaload, 1) := by decide +kernel
theorem dX3_addSound_41 : decode cX3_addSound 41 = .ok (.iadd, 1) := by decide +kernel
theorem dX3_addSound_42 : decode cX3_addSound 42 = .ok (.iload_n 1, 1) := by decide +kernel
theorem dX3_addSound_43 : decode cX3_addSound 43 = .ok (.iastore, 1) := by decide +kernel
theorem dX3_addSound_44 : decode cX3_addSound 44 = .ok (.aload_n 0, 1) := by decide +kernel
theorem dX3_addSound_45 : decode cX3_addSound 45 = .ok (.getfield 32, 3) := by decide +kernel
theorem dX3_addSound_48 : decode cX3_addSound 48 = .ok (.aload_n 0, 1) := by decide +kernel
theorem dX3_addSound_49 : decode cX3_addSound 49 = .ok (.getfield 59, 3) := by decide +kernel
theorem dX3_addSound_52 : decode cX3_addSound 52 = .ok (.dup2, 1) := by decide +kernel
theorem dX3_addSound_53 : decode cX3_addSound 53 = .ok (.iaload, 1) := by decide +kernel
theorem dX3_addSound_54 : decode cX3_addSound 54 = .ok (.iconst 1, 1) := by decide +kernel
theorem dX3_addSound_55 : decode cX3_addSound 55 = .ok (.iadd, 1) := by decide +kernel
theorem dX3_addSound_56 : decode cX3_addSound 56 = .ok (.iastore, 1) := by decide +kernel
theorem dX3_addSound_57 : decode cX3_addSound 57 = .ok (.return_, 1) := by decide +kernel
theorem dX3_isNewWordSaid_0 : decode cX3_isNewWordSaid 0 = .ok (.aload_n 0, 1) := by decide +kernel
theorem dX3_isNewWordSaid_1 : decode cX3_isNewWordSaid 1 = .ok (.getfield 59, 3) := by decide +kernel
theorem dX3_isNewWordSaid_4 : decode cX3_isNewWordSaid 4 = .ok (.bipush 7, 2) := by decide +kernel
theorem dX3_isNewWordSaid_6 : decode cX3_isNewWordSaid 6 = .ok (.if_icmp .lt 5, 3) := by decide +kernel
theorem dX3_isNewWordSaid_9 : decode cX3_isNewWordSaid 9 = .ok (.iconst 1, 1) := by decide +kernel
theorem dX3_isNewWordSaid_10 : decode cX3_isNewWordSaid 10 = .ok (.ireturn, 1) := by decide +kernel
theorem dX3_isNewWordSaid_11 : decode cX3_isNewWordSaid 11 = .ok (.iconst 0, 1) := by decide +kernel
theorem dX3_isNewWordSaid_12 : decode cX3_isNewWordSaid 12 = .ok (.istore_n 1, 1) := by decide +kernel
theorem dX3_isNewWordSaid_13 : decode cX3_isNewWordSaid 13 = .ok (.iload_n 1, 1) := by decide +kernel
theorem dX3_isNewWordSaid_14 : decode cX3_isNewWordSaid 14 = .ok (.aload_n 0, 1) := by decide +kernel
theorem dX3_isNewWordSaid_15 : decode cX3_isNewWordSaid 15 = .ok (.getfield 59, 3) := by decide +kernel
theorem dX3_isNewWordSaid_18 : decode cX3_isNewWordSaid 18 = .ok (.if_icmp .ge 37, 3) := by decide +kernel
theorem dX3_isNewWordSaid_21 : decode cX3_isNewWordSaid 21 = .ok (.aload_n 0, 1) := by decide +kernel
theorem dX3_isNewWordSaid_22 : decode cX3_isNewWordSaid 22 = .ok (.getfield 32, 3) := by decide +kernel
theorem dX3_isNewWordSaid_25 : decode cX3_isNewWordSaid 25 = .ok (.iload_n 1, 1) := by decide +kernel
theorem dX3_isNewWordSaid_26 : decode cX3_isNewWordSaid 26 = .ok (.iaload, 1) := by decide +kernel
theorem dX3_isNewWordSaid_27 : decode cX3_isNewWordSaid 27 = .ok (.aload_n 0, 1) := by decide +kernel
theorem dX3_isNewWordSaid_28 : decode cX3_isNewWordSaid 28 = .ok (.getfield 32, 3) := by decide +kernel
theorem dX3_isNewWordSaid_31 : decode cX3_isNewWordSaid 31 = .ok (.aload_n 0, 1) := by decide +kernel
theorem dX3_isNewWordSaid_32 : decode cX3_isNewWordSaid 32 = .ok (.getfield 59, 3) := by decide +kernel
theorem dX3_isNewWordSaid_35 : decode cX3_isNewWordSaid 35 = .ok (.iaload, 1) := by decide +kernel
theorem dX3_isNewWordSaid_36 : decode cX3_isNewWordSaid 36 = .ok (.if_icmp .ne 13, 3) := by decide +kernel
theorem dX3_isNewWordSaid_39 : decode cX3_isNewWordSaid 39 = .ok (.aload_n 0, 1) := by decide +kernel
theorem dX3_isNewWordSaid_40 : decode cX3_isNewWordSaid 40 = .ok (.iload_n 1, 1) := by decide +kernel
theorem dX3_isNewWordSaid_41 : decode cX3_isNewWordSaid 41 = .ok (.invokevirtual 92, 3) := by decide +kernel
theorem dX3_isNewWordSaid_44 : decode cX3_isNewWordSaid 44 = .ok (.ifCond .eq 5, 3) := by decide +kernel
theorem dX3_isNewWordSaid_47 : decode cX3_isNewWordSaid 47 = .ok (.iconst 1, 1) := by decide +kernel
theorem dX3_isNewWordSaid_48 : decode cX3_isNewWordSaid 48 = .ok (.ireturn, 1) := by decide +kernel
theorem dX3_isNewWordSaid_49 : decode cX3_isNewWordSaid 49 = .ok (.iinc 1 1, 3) := by decide +kernel
theorem dX3_isNewWordSaid_52 : decode cX3_isNewWordSaid 52 = .ok (.goto (-39), 3) := by decide +kernel
theorem dX3_isNewWordSaid_55 : decode cX3_isNewWordSaid 55 = .ok (.iconst 0, 1) := by decide +kernel
theorem dX3_isNewWordSaid_56 : decode cX3_isNewWordSaid 56 = .ok (.ireturn, 1) := by decide +kernel
theorem dX3_saysTheNew_0 : decode cX3_saysTheNew 0 = .ok (.iconst 0, 1) := by decide +kernel
theorem dX3_saysTheNew_1 : decode cX3_saysTheNew 1 = .ok (.istore_n 2, 1) := by decide +kernel
theorem dX3_saysTheNew_2 : decode cX3_saysTheNew 2 = .ok (.iload_n 2, 1) := by decide +kernel
theorem dX3_saysTheNew_3 : decode cX3_saysTheNew 3 = .ok (.aload_n 0, 1) := by decide +kernel
theorem dX3_saysTheNew_4 : decode cX3_saysTheNew 4 = .ok (.getfield 32, 3) := by decide +kernel
theorem dX3_saysTheNew_7 : decode cX3_saysTheNew 7 = .ok (.iload_n 1, 1) := by decide +kernel
theorem dX3_saysTheNew_8 : decode cX3_saysTheNew 8 = .ok (.iaload, 1) := by decide +kernel
theorem dX3_saysTheNew_9 : decode cX3_saysTheNew 9 = .ok (.if_icmp .ge 29, 3) := by decide +kernel
theorem dX3_saysTheNew_12 : decode cX3_saysTheNew 12 = .ok (.aload_n 0, 1) := by decide +kernel
theorem dX3_saysTheNew_13 : decode cX3_saysTheNew 13 = .ok (.iload_n 1, 1) := by decide +kernel
theorem dX3_saysTheNew_14 : decode cX3_saysTheNew 14 = .ok (.iload_n 2, 1) := by decide +kernel
theorem dX3_saysTheNew_15 : decode cX3_saysTheNew 15 = .ok (.invokevirtual 95, 3) := by decide +kernel
theorem dX3_saysTheNew_18 : decode cX3_saysTheNew 18 = .ok (.aload_n 0, 1) := by decide +kernel
theorem dX3_saysTheNew_19 : decode cX3_saysTheNew 19 = .ok (.aload_n 0, 1) := by decide +kernel
theorem dX3_saysTheNew_20 : decode cX3_saysTheNew 20 = .ok (.getfield 59, 3) := by decide +kernel
theorem dX3_saysTheNew_23 : decode cX3_saysTheNew 23 = .ok (.iload_n 2, 1) := by decide +kernel
theorem dX3_saysTheNew_24 : decode cX3_saysTheNew 24 = .ok (.invokevirtual 95, 3) := by decide +kernel
theorem dX3_saysTheNew_27 : decode cX3_saysTheNew 27 = .ok (.if_icmp .eq 5, 3) := by decide +kernel
theorem dX3_saysTheNew_30 : decode cX3_saysTheNew 30 = .ok (.iconst 0, 1) := by decide +kernel
theorem dX3_saysTheNew_31 : decode cX3_saysTheNew 31 = .ok (.ireturn, 1) := by decide +kernel
theorem dX3_saysTheNew_32 : decode cX3_saysTheNew 32 = .ok (.iinc 2 1, 3) := by decide +kernel
theorem dX3_saysTheNew_35 : decode cX3_saysTheNew 35 = .ok (.goto (-33), 3) := by decide +kernel
theorem dX3_saysTheNew_38 : decode cX3_saysTheNew 38 = .ok (.iconst 1, 1) := by decide +kernel
theorem dX3_saysTheNew_39 : decode cX3_saysTheNew 39 = .ok (.ireturn, 1) := by decide +kernel
theorem dX3_catchSound_0 : decode cX3_catchSound 0 = .ok (.iload_n 1, 1) := by decide +kernel
theorem dX3_catchSound_1 : decode cX3_catchSound 1 = .ok (.bipush 8, 2) := by decide +kernel
theorem dX3_catchSound_3 : decode cX3_catchSound 3 = .ok (.imul, 1) := by decide +kernel
theorem dX3_catchSound_4 : decode cX3_catchSound 4 = .ok (.istore_n 3, 1) := by decide +kernel
theorem dX3_catchSound_5 : decode cX3_catchSound 5 = .ok (.aload_n 0, 1) := by decide +kernel
theorem dX3_catchSound_6 : decode cX3_catchSound 6 = .ok (.getfield 47, 3) := by decide +kernel
theorem dX3_catchSound_9 : decode cX3_catchSound 9 = .ok (.iload_n 1, 1) := by decide +kernel
theorem dX3_catchSound_10 : decode cX3_catchSound 10 = .ok (.iaload, 1) := by decide +kernel
theorem dX3_catchSound_11 : decode cX3_catchSound 11 = .ok (.bipush 8, 2) := by decide +kernel
theorem dX3_catchSound_13 : decode cX3_catchSound 13 = .ok (.if_icmp .lt 47, 3) := by decide +kernel
theorem dX3_catchSound_16 : decode cX3_catchSound 16 = .ok (.iconst 1, 1) := by decide +kernel
theorem dX3_catchSound_17 : decode cX3_catchSound 17 = .ok (.istore 4, 2) := by decide +kernel
theorem dX3_catchSound_19 : decode cX3_catchSound 19 = .ok (.iload 4, 2) := by decide +kernel
theorem dX3_catchSound_21 : decode cX3_catchSound 21 = .ok (.bipush 8, 2) := by decide +kernel
theorem dX3_catchSound_23 : decode cX3_catchSound 23 = .ok (.if_icmp .ge 29, 3) := by decide +kernel
theorem dX3_catchSound_26 : decode cX3_catchSound 26 = .ok (.aload_n 0, 1) := by decide +kernel
theorem dX3_catchSound_27 : decode cX3_catchSound 27 = .ok (.getfield 50, 3) := by decide +kernel
theorem dX3_catchSound_30 : decode cX3_catchSound 30 = .ok (.iload_n 3, 1) := by decide +kernel
theorem dX3_catchSound_31 : decode cX3_catchSound 31 = .ok (.iload 4, 2) := by decide +kernel
theorem dX3_catchSound_33 : decode cX3_catchSound 33 = .ok (.iadd, 1) := by decide +kernel
theorem dX3_catchSound_34 : decode cX3_catchSound 34 = .ok (.iconst 1, 1) := by decide +kernel
theorem dX3_catchSound_35 : decode cX3_catchSound 35 = .ok (.isub, 1) := by decide +kernel
theorem dX3_catchSound_36 : decode cX3_catchSound 36 = .ok (.aload_n 0, 1) := by decide +kernel
theorem dX3_catchSound_37 : decode cX3_catchSound 37 = .ok (.getfield 50, 3) := by decide +kernel
theorem dX3_catchSound_40 : decode cX3_catchSound 40 = .ok (.iload_n 3, 1) := by decide +kernel
theorem dX3_catchSound_41 : decode cX3_catchSound 41 = .ok (.iload 4, 2) := by decide +kernel
theorem dX3_catchSound_43 : decode cX3_catchSound 43 = .ok (.iadd, 1) := by decide +kernel
theorem dX3_catchSound_44 : decode cX3_catchSound 44 = .ok (.iaload, 1) := by decide +kernel
theorem dX3_catchSound_45 : decode cX3_catchSound 45 = .ok (.iastore, 1) := by decide +kernel
theorem dX3_catchSound_46 : decode cX3_catchSound 46 = .ok (.iinc 4 1, 3) := by decide +kernel
theorem dX3_catchSound_49 : decode cX3_catchSound 49 = .ok (.goto (-30), 3) := by decide +kernel
theorem dX3_catchSound_52 : decode cX3_catchSound 52 = .ok (.aload_n 0, 1) := by decide +kernel
theorem dX3_catchSound_53 : decode cX3_catchSound 53 = .ok (.getfield 47, 3) := by decide +kernel
theorem dX3_catchSound_56 : decode cX3_catchSound 56 = .ok (.iload_n 1, 1) := by decide +kernel
theorem dX3_catchSound_57 : decode cX3_catchSound 57 = .ok (.bipush 7, 2) := by decide +kernel
theorem dX3_catchSound_59 : decode cX3_catchSound 59 = .ok (.iastore, 1) := by decide +kernel
theorem dX3_catchSound_60 : decode cX3_catchSound 60 = .ok (.aload_n 0, 1) := by decide +kernel
theorem dX3_catchSound_61 : decode cX3_catchSound 61 = .ok (.getfield 50, 3) := by decide +kernel
theorem dX3_catchSound_64 : decode cX3_catchSound 64 = .ok (.iload_n 3, 1) := by decide +kernel
theorem dX3_catchSound_65 : decode cX3_catchSound 65 = .ok (.aload_n 0, 1) := by decide +kernel
theorem dX3_catchSound_66 : decode cX3_catchSound 66 = .ok (.getfield 47, 3) := by decide +kernel
theorem dX3_catchSound_69 : decode cX3_catchSound 69 = .ok (.iload_n 1, 1) := by decide +kernel
theorem dX3_catchSound_70 : decode cX3_catchSound 70 = .ok (.iaload, 1) := by decide +kernel
theorem dX3_catchSound_71 : decode cX3_catchSound 71 = .ok (.iadd, 1) := by decide +kernel
theorem dX3_catchSound_72 : decode cX3_catchSound 72 = .ok (.iload_n 2, 1) := by decide +kernel
theorem dX3_catchSound_73 : decode cX3_catchSound 73 = .ok (.iastore, 1) := by decide +kernel
theorem dX3_catchSound_74 : decode cX3_catchSound 74 = .ok (.aload_n 0, 1) := by decide +kernel
theorem dX3_catchSound_75 : decode cX3_catchSound 75 = .ok (.getfield 47, 3) := by decide +kernel
theorem dX3_catchSound_78 : decode cX3_catchSound 78 = .ok (.iload_n 1, 1) := by decide +kernel
theorem dX3_catchSound_79 : decode cX3_catchSound 79 = .ok (.dup2, 1) := by decide +kernel
theorem dX3_catchSound_80 : decode cX3_catchSound 80 = .ok (.iaload, 1) := by decide +kernel
theorem dX3_catchSound_81 : decode cX3_catchSound 81 = .ok (.iconst 1, 1) := by decide +kernel
theorem dX3_catchSound_82 : decode cX3_catchSound 82 = .ok (.iadd, 1) := by decide +kernel
theorem dX3_catchSound_83 : decode cX3_catchSound 83 = .ok (.iastore, 1) := by decide +kernel
theorem dX3_catchSound_84 : decode cX3_catchSound 84 = .ok (.return_, 1) := by decide +kernel
theorem dX10_init_0 : decode cX10_init 0 = .ok (.aload_n 0, 1) := by decide +kernel
theorem dX10_init_1 : decode cX10_init 1 = .ok (.invokespecial 3, 3) := by decide +kernel
theorem dX10_init_4 : decode cX10_init 4 = .ok (.aload_n 0, 1) := by decide +kernel
theorem dX10_init_5 : decode cX10_init 5 = .ok (.sipush 1024, 3) := by decide +kernel
theorem dX10_init_8 : decode cX10_init 8 = .ok (.newarray .int, 2) := by decide +kernel
theorem dX10_init_10 : decode cX10_init 10 = .ok (.putfield 9, 3) := by decide +kernel
theorem dX10_init_13 : decode cX10_init 13 = .ok (.return_, 1) := by decide +kernel
theorem dX10_stepOnce_0 : decode cX10_stepOnce 0 = .ok (.iload_n 2, 1) := by decide +kernel
theorem dX10_stepOnce_1 : decode cX10_stepOnce 1 = .ok (.istore_n 3, 1) := by decide +kernel
theorem dX10_stepOnce_2 : decode cX10_stepOnce 2 = .ok (.iconst 0, 1) := by decide +kernel
theorem dX10_stepOnce_3 : decode cX10_stepOnce 3 = .ok (.istore 4, 2) := by decide +kernel
theorem dX10_stepOnce_5 : decode cX10_stepOnce 5 = .ok (.iload 4, 2) := by decide +kernel
theorem dX10_stepOnce_7 : decode cX10_stepOnce 7 = .ok (.aload_n 0, 1) := by decide +kernel
theorem dX10_stepOnce_8 : decode cX10_stepOnce 8 = .ok (.getfield 15, 3) := by decide +kernel
theorem dX10_stepOnce_11 : decode cX10_stepOnce 11 = .ok (.if_icmp .ge 38, 3) := by decide +kernel
theorem dX10_stepOnce_14 : decode cX10_stepOnce 14 = .ok (.aload_n 0, 1) := by decide +kernel
theorem dX10_stepOnce_15 : decode cX10_stepOnce 15 = .ok (.iload 4, 2) := by decide +kernel
theorem dX10_stepOnce_17 : decode cX10_stepOnce 17 = .ok (.invokevirtual 21, 3) := by decide +kernel
theorem dX10_stepOnce_20 : decode cX10_stepOnce 20 = .ok (.istore 5, 2) := by decide +kernel
theorem dX10_stepOnce_22 : decode cX10_stepOnce 22 = .ok (.iload_n 1, 1) := by decide +kernel
theorem dX10_stepOnce_23 : decode cX10_stepOnce 23 = .ok (.iload 4, 2) := by decide +kernel
theorem dX10_stepOnce_25 : decode cX10_stepOnce 25 = .ok (.invokestatic 25, 3) := by decide +kernel
theorem dX10_stepOnce_28 : decode cX10_stepOnce 28 = .ok (.ifCond .eq 15, 3) := by decide +kernel
theorem dX10_stepOnce_31 : decode cX10_stepOnce 31 = .ok (.iload_n 2, 1) := by decide +kernel
theorem dX10_stepOnce_32 : decode cX10_stepOnce 32 = .ok (.iload 5, 2) := by decide +kernel
theorem dX10_stepOnce_34 : decode cX10_stepOnce 34 = .ok (.iand, 1) := by decide +kernel
theorem dX10_stepOnce_35 : decode cX10_stepOnce 35 = .ok (.ifCond .eq 8, 3) := by decide +kernel
theorem dX10_stepOnce_38 : decode cX10_stepOnce 38 = .ok (.iload_n 3, 1) := by decide +kernel
theorem dX10_stepOnce_39 : decode cX10_stepOnce 39 = .ok (.iload 5, 2) := by decide +kernel
theorem dX10_stepOnce_41 : decode cX10_stepOnce 41 = .ok (.ior, 1) := by decide +kernel
theorem dX10_stepOnce_42 : decode cX10_stepOnce 42 = .ok (.istore_n 3, 1) := by decide +kernel
theorem dX10_stepOnce_43 : decode cX10_stepOnce 43 = .ok (.iinc 4 1, 3) := by decide +kernel
theorem dX10_stepOnce_46 : decode cX10_stepOnce 46 = .ok (.goto (-41), 3) := by decide +kernel
theorem dX10_stepOnce_49 : decode cX10_stepOnce 49 = .ok (.iload_n 3, 1) := by decide +kernel
theorem dX10_stepOnce_50 : decode cX10_stepOnce 50 = .ok (.ireturn, 1) := by decide +kernel
theorem dX10_reach_0 : decode cX10_reach 0 = .ok (.iload_n 2, 1) := by decide +kernel
theorem dX10_reach_1 : decode cX10_reach 1 = .ok (.istore_n 3, 1) := by decide +kernel
theorem dX10_reach_2 : decode cX10_reach 2 = .ok (.iconst 0, 1) := by decide +kernel
theorem dX10_reach_3 : decode cX10_reach 3 = .ok (.istore 4, 2) := by decide +kernel
theorem dX10_reach_5 : decode cX10_reach 5 = .ok (.iload 4, 2) := by decide +kernel
theorem dX10_reach_7 : decode cX10_reach 7 = .ok (.bipush 7, 2) := by decide +kernel
theorem dX10_reach_9 : decode cX10_reach 9 = .ok (.if_icmp .ge 29, 3) := by decide +kernel
theorem dX10_reach_12 : decode cX10_reach 12 = .ok (.aload_n 0, 1) := by decide +kernel
theorem dX10_reach_13 : decode cX10_reach 13 = .ok (.iload_n 1, 1) := by decide +kernel
theorem dX10_reach_14 : decode cX10_reach 14 = .ok (.iload_n 3, 1) := by decide +kernel
theorem dX10_reach_15 : decode cX10_reach 15 = .ok (.invokestatic 29, 3) := by decide +kernel
theorem dX10_reach_18 : decode cX10_reach 18 = .ok (.istore 5, 2) := by decide +kernel
theorem dX10_reach_20 : decode cX10_reach 20 = .ok (.iload 5, 2) := by decide +kernel
theorem dX10_reach_22 : decode cX10_reach 22 = .ok (.iload_n 3, 1) := by decide +kernel
theorem dX10_reach_23 : decode cX10_reach 23 = .ok (.if_icmp .ne 6, 3) := by decide +kernel
theorem dX10_reach_26 : decode cX10_reach 26 = .ok (.goto 12, 3) := by decide +kernel
theorem dX10_reach_29 : decode cX10_reach 29 = .ok (.iload 5, 2) := by decide +kernel
theorem dX10_reach_31 : decode cX10_reach 31 = .ok (.istore_n 3, 1) := by decide +kernel
theorem dX10_reach_32 : decode cX10_reach 32 = .ok (.iinc 4 1, 3) := by decide +kernel
theorem dX10_reach_35 : decode cX10_reach 35 = .ok (.goto (-30), 3) := by decide +kernel
theorem dX10_reach_38 : decode cX10_reach 38 = .ok (.iload_n 3, 1) := by decide +kernel
theorem dX10_reach_39 : decode cX10_reach 39 = .ok (.ireturn, 1) := by decide +kernel
theorem dX10_distance_0 : decode cX10_distance 0 = .ok (.iconst 1, 1) := by decide +kernel
theorem dX10_distance_1 : decode cX10_distance 1 = .ok (.iload_n 1, 1) := by decide +kernel
theorem dX10_distance_2 : decode cX10_distance 2 = .ok (.ishl, 1) := by decide +kernel
theorem dX10_distance_3 : decode cX10_distance 3 = .ok (.istore_n 3, 1) := by decide +kernel
theorem dX10_distance_4 : decode cX10_distance 4 = .ok (.iconst 0, 1) := by decide +kernel
theorem dX10_distance_5 : decode cX10_distance 5 = .ok (.istore 4, 2) := by decide +kernel
theorem dX10_distance_7 : decode cX10_distance 7 = .ok (.iload 4, 2) := by decide +kernel
theorem dX10_distance_9 : decode cX10_distance 9 = .ok (.bipush 7, 2) := by decide +kernel
theorem dX10_distance_11 : decode cX10_distance 11 = .ok (.if_icmp .ge 30, 3) := by decide +kernel
theorem dX10_distance_14 : decode cX10_distance 14 = .ok (.iload_n 3, 1) := by decide +kernel
theorem dX10_distance_15 : decode cX10_distance 15 = .ok (.iload_n 2, 1) := by decide +kernel
theorem dX10_distance_16 : decode cX10_distance 16 = .ok (.invokestatic 25, 3) := by decide +kernel
theorem dX10_distance_19 : decode cX10_distance 19 = .ok (.ifCond .eq 6, 3) := by decide +kernel
theorem dX10_distance_22 : decode cX10_distance 22 = .ok (.iload 4, 2) := by decide +kernel
theorem dX10_distance_24 : decode cX10_distance 24 = .ok (.ireturn, 1) := by decide +kernel
theorem dX10_distance_25 : decode cX10_distance 25 = .ok (.aload_n 0, 1) := by decide +kernel
theorem dX10_distance_26 : decode cX10_distance 26 = .ok (.aload_n 0, 1) := by decide +kernel
theorem dX10_distance_27 : decode cX10_distance 27 = .ok (.getfield 33, 3) := by decide +kernel
theorem dX10_distance_30 : decode cX10_distance 30 = .ok (.iload_n 3, 1) := by decide +kernel
theorem dX10_distance_31 : decode cX10_distance 31 = .ok (.invokestatic 29, 3) := by decide +kernel
theorem dX10_distance_34 : decode cX10_distance 34 = .ok (.istore_n 3, 1) := by decide +kernel
theorem dX10_distance_35 : decode cX10_distance 35 = .ok (.iinc 4 1, 3) := by decide +kernel
theorem dX10_distance_38 : decode cX10_distance 38 = .ok (.goto (-31), 3) := by decide +kernel
theorem dX10_distance_41 : decode cX10_distance 41 = .ok (.iconst (-1), 1) := by decide +kernel
theorem dX10_distance_42 : decode cX10_distance 42 = .ok (.ireturn, 1) := by decide +kernel
theorem dX10_roomOnWay_0 : decode cX10_roomOnWay 0 = .ok (.aload_n 0, 1) := by decide +kernel
theorem dX10_roomOnWay_1 : decode cX10_roomOnWay 1 = .ok (.iload_n 1, 1) := by decide +kernel
theorem dX10_roomOnWay_2 : decode cX10_roomOnWay 2 = .ok (.iload_n 2, 1) := by decide +kernel
theorem dX10_roomOnWay_3 : decode cX10_roomOnWay 3 = .ok (.invokestatic 36, 3) := by decide +kernel
theorem dX10_roomOnWay_6 : decode cX10_roomOnWay 6 = .ok (.istore 4, 2) := by decide +kernel
theorem dX10_roomOnWay_8 : decode cX10_roomOnWay 8 = .ok (.iload 4, 2) := by decide +kernel
theorem dX10_roomOnWay_10 : decode cX10_roomOnWay 10 = .ok (.iconst (-1), 1) := by decide +kernel
theorem dX10_roomOnWay_11 : decode cX10_roomOnWay 11 = .ok (.if_icmp .eq 9, 3) := by decide +kernel
theorem dX10_roomOnWay_14 : decode cX10_roomOnWay 14 = .ok (.iload_n 3, 1) := by decide +kernel
theorem dX10_roomOnWay_15 : decode cX10_roomOnWay 15 = .ok (.iload 4, 2) := by decide +kernel
theorem dX10_roomOnWay_17 : decode cX10_roomOnWay 17 = .ok (.if_icmp .le 5, 3) := by decide +kernel
theorem dX10_roomOnWay_20 : decode cX10_roomOnWay 20 = .ok (.iconst (-1), 1) := by decide +kernel
theorem dX10_roomOnWay_21 : decode cX10_roomOnWay 21 = .ok (.ireturn, 1) := by decide +kernel
theorem dX10_roomOnWay_22 : decode cX10_roomOnWay 22 = .ok (.iload_n 1, 1) := by decide +kernel
theorem dX10_roomOnWay_23 : decode cX10_roomOnWay 23 = .ok (.istore 5, 2) := by decide +kernel
theorem dX10_roomOnWay_25 : decode cX10_roomOnWay 25 = .ok (.iconst 0, 1) := by decide +kernel
theorem dX10_roomOnWay_26 : decode cX10_roomOnWay 26 = .ok (.istore 6, 2) := by decide +kernel
theorem dX10_roomOnWay_28 : decode cX10_roomOnWay 28 = .ok (.iload 6, 2) := by decide +kernel
theorem dX10_roomOnWay_30 : decode cX10_roomOnWay 30 = .ok (.iload_n 3, 1) := by decide +kernel
theorem dX10_roomOnWay_31 : decode cX10_roomOnWay 31 = .ok (.if_icmp .ge 25, 3) := by decide +kernel
theorem dX10_roomOnWay_34 : decode cX10_roomOnWay 34 = .ok (.aload_n 0, 1) := by decide +kernel
theorem dX10_roomOnWay_35 : decode cX10_roomOnWay 35 = .ok (.iload 5, 2) := by decide +kernel
theorem dX10_roomOnWay_37 : decode cX10_roomOnWay 37 = .ok (.iload_n 2, 1) := by decide +kernel
theorem dX10_roomOnWay_38 : decode cX10_roomOnWay 38 = .ok (.iload 4, 2) := by decide +kernel
theorem dX10_roomOnWay_40 : decode cX10_roomOnWay 40 = .ok (.iload 6, 2) := by decide +kernel
theorem dX10_roomOnWay_42 : decode cX10_roomOnWay 42 = .ok (.isub, 1) := by decide +kernel
theorem dX10_roomOnWay_43 : decode cX10_roomOnWay 43 = .ok (.iconst 1, 1) := by decide +kernel
theorem dX10_roomOnWay_44 : decode cX10_roomOnWay 44 = .ok (.isub, 1) := by decide +kernel
theorem dX10_roomOnWay_45 : decode cX10_roomOnWay 45 = .ok (.invokestatic 39, 3) := by decide +kernel
theorem dX10_roomOnWay_48 : decode cX10_roomOnWay 48 = .ok (.istore 5, 2) := by decide +kernel
theorem dX10_roomOnWay_50 : decode cX10_roomOnWay 50 = .ok (.iinc 6 1, 3) := by decide +kernel
theorem dX10_roomOnWay_53 : decode cX10_roomOnWay 53 = .ok (.goto (-25), 3) := by decide +kernel
theorem dX10_roomOnWay_56 : decode cX10_roomOnWay 56 = .ok (.iload 5, 2) := by decide +kernel
theorem dX10_roomOnWay_58 : decode cX10_roomOnWay 58 = .ok (.ireturn, 1) := by decide +kernel
theorem dX10_nextOnWay_0 : decode cX10_nextOnWay 0 = .ok (.aload_n 0, 1) := by decide +kernel
theorem dX10_nextOnWay_1 : decode cX10_nextOnWay 1 = .ok (.aload_n 0, 1) := by decide +kernel
theorem dX10_nextOnWay_2 : decode cX10_nextOnWay 2 = .ok (.getfield 33, 3) := by decide +kernel
theorem dX10_nextOnWay_5 : decode cX10_nextOnWay 5 = .ok (.iconst 1, 1) := by decide +kernel
theorem dX10_nextOnWay_6 : decode cX10_nextOnWay 6 = .ok (.iload_n 1, 1) := by decide +kernel
theorem dX10_nextOnWay_7 : decode cX10_nextOnWay 7 = .ok (.ishl, 1) := by decide +kernel
theorem dX10_nextOnWay_8 : decode cX10_nextOnWay 8 = .ok (.invokestatic 29, 3) := by decide +kernel
theorem dX10_nextOnWay_11 : decode cX10_nextOnWay 11 = .ok (.istore 4, 2) := by decide +kernel
theorem dX10_nextOnWay_13 : decode cX10_nextOnWay 13 = .ok (.iconst 0, 1) := by decide +kernel
theorem dX10_nextOnWay_14 : decode cX10_nextOnWay 14 = .ok (.istore 5, 2) := by decide +kernel
theorem dX10_nextOnWay_16 : decode cX10_nextOnWay 16 = .ok (.iload 5, 2) := by decide +kernel
theorem dX10_nextOnWay_18 : decode cX10_nextOnWay 18 = .ok (.aload_n 0, 1) := by decide +kernel
theorem dX10_nextOnWay_19 : decode cX10_nextOnWay 19 = .ok (.getfield 43, 3) := by decide +kernel
theorem dX10_nextOnWay_22 : decode cX10_nextOnWay 22 = .ok (.if_icmp .ge 33, 3) := by decide +kernel
theorem dX10_nextOnWay_25 : decode cX10_nextOnWay 25 = .ok (.iload 4, 2) := by decide +kernel
theorem dX10_nextOnWay_27 : decode cX10_nextOnWay 27 = .ok (.iload 5, 2) := by decide +kernel
theorem dX10_nextOnWay_29 : decode cX10_nextOnWay 29 = .ok (.invokestatic 25, 3) := by decide +kernel
theorem dX10_nextOnWay_32 : decode cX10_nextOnWay 32 = .ok (.ifCond .eq 17, 3) := by decide +kernel
theorem dX10_nextOnWay_35 : decode cX10_nextOnWay 35 = .ok (.aload_n 0, 1) := by decide +kernel
theorem dX10_nextOnWay_36 : decode cX10_nextOnWay 36 = .ok (.iload 5, 2) := by decide +kernel
theorem dX10_nextOnWay_38 : decode cX10_nextOnWay 38 = .ok (.iload_n 2, 1) := by decide +kernel
theorem dX10_nextOnWay_39 : decode cX10_nextOnWay 39 = .ok (.invokestatic 36, 3) := by decide +kernel
theorem dX10_nextOnWay_42 : decode cX10_nextOnWay 42 = .ok (.iload_n 3, 1) := by decide +kernel
theorem dX10_nextOnWay_43 : decode cX10_nextOnWay 43 = .ok (.if_icmp .ne 6, 3) := by decide +kernel
theorem dX10_nextOnWay_46 : decode cX10_nextOnWay 46 = .ok (.iload 5, 2) := by decide +kernel
theorem dX10_nextOnWay_48 : decode cX10_nextOnWay 48 = .ok (.ireturn, 1) := by decide +kernel
theorem dX10_nextOnWay_49 : decode cX10_nextOnWay 49 = .ok (.iinc 5 1, 3) := by decide +kernel
theorem dX10_nextOnWay_52 : decode cX10_nextOnWay 52 = .ok (.goto (-36), 3) := by decide +kernel
theorem dX10_nextOnWay_55 : decode cX10_nextOnWay 55 = .ok (.iload_n 1, 1) := by decide +kernel
theorem dX10_nextOnWay_56 : decode cX10_nextOnWay 56 = .ok (.ireturn, 1) := by decide +kernel
theorem dX10_doorsThatPart_0 : decode cX10_doorsThatPart 0 = .ok (.iload_n 1, 1) := by decide +kernel
theorem dX10_doorsThatPart_1 : decode cX10_doorsThatPart 1 = .ok (.iload_n 2, 1) := by decide +kernel
theorem dX10_doorsThatPart_2 : decode cX10_doorsThatPart 2 = .ok (.if_icmp .ne 5, 3) := by decide +kernel
theorem dX10_doorsThatPart_5 : decode cX10_doorsThatPart 5 = .ok (.iconst (-1), 1) := by decide +kernel
theorem dX10_doorsThatPart_6 : decode cX10_doorsThatPart 6 = .ok (.ireturn, 1) := by decide +kernel
theorem dX10_doorsThatPart_7 : decode cX10_doorsThatPart 7 = .ok (.aload_n 0, 1) := by decide +kernel
theorem dX10_doorsThatPart_8 : decode cX10_doorsThatPart 8 = .ok (.getfield 33, 3) := by decide +kernel
theorem dX10_doorsThatPart_11 : decode cX10_doorsThatPart 11 = .ok (.istore_n 3, 1) := by decide +kernel
theorem dX10_doorsThatPart_12 : decode cX10_doorsThatPart 12 = .ok (.iconst 0, 1) := by decide +kernel
theorem dX10_doorsThatPart_13 : decode cX10_doorsThatPart 13 = .ok (.istore 4, 2) := by decide +kernel
theorem dX10_doorsThatPart_15 : decode cX10_doorsThatPart 15 = .ok (.iload 4, 2) := by decide +kernel
theorem dX10_doorsThatPart_17 : decode cX10_doorsThatPart 17 = .ok (.aload_n 0, 1) := by decide +kernel
theorem dX10_doorsThatPart_18 : decode cX10_doorsThatPart 18 = .ok (.getfield 33, 3) := by decide +kernel
theorem dX10_doorsThatPart_21 : decode cX10_doorsThatPart 21 = .ok (.if_icmp .ge 69, 3) := by decide +kernel
theorem dX10_doorsThatPart_24 : decode cX10_doorsThatPart 24 = .ok (.iload 4, 2) := by decide +kernel
theorem dX10_doorsThatPart_26 : decode cX10_doorsThatPart 26 = .ok (.invokestatic 46, 3) := by decide +kernel
theorem dX10_doorsThatPart_29 : decode cX10_doorsThatPart 29 = .ok (.iload_n 3, 1) := by decide +kernel
theorem dX10_doorsThatPart_30 : decode cX10_doorsThatPart 30 = .ok (.invokestatic 46, 3) := by decide +kernel
theorem dX10_doorsThatPart_33 : decode cX10_doorsThatPart 33 = .ok (.if_icmp .ge 7, 3) := by decide +kernel
theorem dX10_doorsThatPart_36 : decode cX10_doorsThatPart 36 = .ok (.iconst 1, 1) := by decide +kernel
theorem dX10_doorsThatPart_37 : decode cX10_doorsThatPart 37 = .ok (.goto 4, 3) := by decide +kernel
theorem dX10_doorsThatPart_40 : decode cX10_doorsThatPart 40 = .ok (.iconst 0, 1) := by decide +kernel
theorem dX10_doorsThatPart_41 : decode cX10_doorsThatPart 41 = .ok (.istore 5, 2) := by decide +kernel
theorem dX10_doorsThatPart_43 : decode cX10_doorsThatPart 43 = .ok (.iload 5, 2) := by decide +kernel
theorem dX10_doorsThatPart_45 : decode cX10_doorsThatPart 45 = .ok (.ifCond .eq 39, 3) := by decide +kernel
theorem dX10_doorsThatPart_48 : decode cX10_doorsThatPart 48 = .ok (.iload 4, 2) := by decide +kernel
theorem dX10_doorsThatPart_50 : decode cX10_doorsThatPart 50 = .ok (.aload_n 0, 1) := by decide +kernel
theorem dX10_doorsThatPart_51 : decode cX10_doorsThatPart 51 = .ok (.getfield 33, 3) := by decide +kernel
theorem dX10_doorsThatPart_54 : decode cX10_doorsThatPart 54 = .ok (.iconst (-1), 1) := by decide +kernel
theorem dX10_doorsThatPart_55 : decode cX10_doorsThatPart 55 = .ok (.ixor, 1) := by decide +kernel
theorem dX10_doorsThatPart_56 : decode cX10_doorsThatPart 56 = .ok (.iand, 1) := by decide +kernel
theorem dX10_doorsThatPart_57 : decode cX10_doorsThatPart 57 = .ok (.ifCond .ne 27, 3) := by decide +kernel
theorem dX10_doorsThatPart_60 : decode cX10_doorsThatPart 60 = .ok (.aload_n 0, 1) := by decide +kernel
theorem dX10_doorsThatPart_61 : decode cX10_doorsThatPart 61 = .ok (.aload_n 0, 1) := by decide +kernel
theorem dX10_doorsThatPart_62 : decode cX10_doorsThatPart 62 = .ok (.getfield 33, 3) := by decide +kernel
theorem dX10_doorsThatPart_65 : decode cX10_doorsThatPart 65 = .ok (.iload 4, 2) := by decide +kernel
theorem dX10_doorsThatPart_67 : decode cX10_doorsThatPart 67 = .ok (.ixor, 1) := by decide +kernel
theorem dX10_doorsThatPart_68 : decode cX10_doorsThatPart 68 = .ok (.iconst 1, 1) := by decide +kernel
theorem dX10_doorsThatPart_69 : decode cX10_doorsThatPart 69 = .ok (.iload_n 1, 1) := by decide +kernel
theorem dX10_doorsThatPart_70 : decode cX10_doorsThatPart 70 = .ok (.ishl, 1) := by decide +kernel
theorem dX10_doorsThatPart_71 : decode cX10_doorsThatPart 71 = .ok (.invokestatic 51, 3) := by decide +kernel
theorem dX10_doorsThatPart_74 : decode cX10_doorsThatPart 74 = .ok (.iload_n 2, 1) := by decide +kernel
theorem dX10_doorsThatPart_75 : decode cX10_doorsThatPart 75 = .ok (.invokestatic 25, 3) := by decide +kernel
theorem dX10_doorsThatPart_78 : decode cX10_doorsThatPart 78 = .ok (.ifCond .ne 6, 3) := by decide +kernel
theorem dX10_doorsThatPart_81 : decode cX10_doorsThatPart 81 = .ok (.iload 4, 2) := by decide +kernel
theorem dX10_doorsThatPart_83 : decode cX10_doorsThatPart 83 = .ok (.istore_n 3, 1) := by decide +kernel
theorem dX10_doorsThatPart_84 : decode cX10_doorsThatPart 84 = .ok (.iinc 4 1, 3) := by decide +kernel
theorem dX10_doorsThatPart_87 : decode cX10_doorsThatPart 87 = .ok (.goto (-72), 3) := by decide +kernel
theorem dX10_doorsThatPart_90 : decode cX10_doorsThatPart 90 = .ok (.iload_n 3, 1) := by decide +kernel
theorem dX10_doorsThatPart_91 : decode cX10_doorsThatPart 91 = .ok (.ireturn, 1) := by decide +kernel
theorem dX10_doorsToJoin_0 : decode cX10_doorsToJoin 0 = .ok (.iconst 1, 1) := by decide +kernel
theorem dX10_doorsToJoin_1 : decode cX10_doorsToJoin 1 = .ok (.aload_n 0, 1) := by decide +kernel
theorem dX10_doorsToJoin_2 : decode cX10_doorsToJoin 2 = .ok (.getfield 15, 3) := by decide +kernel
theorem dX10_doorsToJoin_5 : decode cX10_doorsToJoin 5 = .ok (.ishl, 1) := by decide +kernel
theorem dX10_doorsToJoin_6 : decode cX10_doorsToJoin 6 = .ok (.iconst 1, 1) := by decide +kernel
theorem dX10_doorsToJoin_7 : decode cX10_doorsToJoin 7 = .ok (.isub, 1) := by decide +kernel
theorem dX10_doorsToJoin_8 : decode cX10_doorsToJoin 8 = .ok (.istore_n 3, 1) := by decide +kernel
theorem dX10_doorsToJoin_9 : decode cX10_doorsToJoin 9 = .ok (.aload_n 0, 1) := by decide +kernel
theorem dX10_doorsToJoin_10 : decode cX10_doorsToJoin 10 = .ok (.aload_n 0, 1) := by decide +kernel
theorem dX10_doorsToJoin_11 : decode cX10_doorsToJoin 11 = .ok (.getfield 33, 3) := by decide +kernel
theorem dX10_doorsToJoin_14 : decode cX10_doorsToJoin 14 = .ok (.iconst 1, 1) := by decide +kernel
theorem dX10_doorsToJoin_15 : decode cX10_doorsToJoin 15 = .ok (.iload_n 1, 1) := by decide +kernel
theorem dX10_doorsToJoin_16 : decode cX10_doorsToJoin 16 = .ok (.ishl, 1) := by decide +kernel
theorem dX10_doorsToJoin_17 : decode cX10_doorsToJoin 17 = .ok (.invokestatic 51, 3) := by decide +kernel
theorem dX10_doorsToJoin_20 : decode cX10_doorsToJoin 20 = .ok (.istore 4, 2) := by decide +kernel
theorem dX10_doorsToJoin_22 : decode cX10_doorsToJoin 22 = .ok (.iconst 0, 1) := by decide +kernel
theorem dX10_doorsToJoin_23 : decode cX10_doorsToJoin 23 = .ok (.istore 5, 2) := by decide +kernel
theorem dX10_doorsToJoin_25 : decode cX10_doorsToJoin 25 = .ok (.iload 5, 2) := by decide +kernel
theorem dX10_doorsToJoin_27 : decode cX10_doorsToJoin 27 = .ok (.aload_n 0, 1) := by decide +kernel
theorem dX10_doorsToJoin_28 : decode cX10_doorsToJoin 28 = .ok (.getfield 15, 3) := by decide +kernel
theorem dX10_doorsToJoin_31 : decode cX10_doorsToJoin 31 = .ok (.if_icmp .gt 38, 3) := by decide +kernel
theorem dX10_doorsToJoin_34 : decode cX10_doorsToJoin 34 = .ok (.iload 4, 2) := by decide +kernel
theorem dX10_doorsToJoin_36 : decode cX10_doorsToJoin 36 = .ok (.iload_n 2, 1) := by decide +kernel
theorem dX10_doorsToJoin_37 : decode cX10_doorsToJoin 37 = .ok (.invokestatic 25, 3) := by decide +kernel
theorem dX10_doorsToJoin_40 : decode cX10_doorsToJoin 40 = .ok (.ifCond .eq 6, 3) := by decide +kernel
theorem dX10_doorsToJoin_43 : decode cX10_doorsToJoin 43 = .ok (.iload 5, 2) := by decide +kernel
theorem dX10_doorsToJoin_45 : decode cX10_doorsToJoin 45 = .ok (.ireturn, 1) := by decide +kernel
theorem dX10_doorsToJoin_46 : decode cX10_doorsToJoin 46 = .ok (.aload_n 0, 1) := by decide +kernel
theorem dX10_doorsToJoin_47 : decode cX10_doorsToJoin 47 = .ok (.aload_n 0, 1) := by decide +kernel
theorem dX10_doorsToJoin_48 : decode cX10_doorsToJoin 48 = .ok (.getfield 33, 3) := by decide +kernel
theorem dX10_doorsToJoin_51 : decode cX10_doorsToJoin 51 = .ok (.aload_n 0, 1) := by decide +kernel
theorem dX10_doorsToJoin_52 : decode cX10_doorsToJoin 52 = .ok (.iload_n 3, 1) := by decide +kernel
theorem dX10_doorsToJoin_53 : decode cX10_doorsToJoin 53 = .ok (.iload 4, 2) := by decide +kernel
theorem dX10_doorsToJoin_55 : decode cX10_doorsToJoin 55 = .ok (.invokestatic 29, 3) := by decide +kernel
theorem dX10_doorsToJoin_58 : decode cX10_doorsToJoin 58 = .ok (.invokestatic 51, 3) := by decide +kernel
theorem dX10_doorsToJoin_61 : decode cX10_doorsToJoin 61 = .ok (.istore 4, 2) := by decide +kernel
theorem dX10_doorsToJoin_63 : decode cX10_doorsToJoin 63 = .ok (.iinc 5 1, 3) := by decide +kernel
theorem dX10_doorsToJoin_66 : decode cX10_doorsToJoin 66 = .ok (.goto (-41), 3) := by decide +kernel
theorem dX10_doorsToJoin_69 : decode cX10_doorsToJoin 69 = .ok (.iconst (-1), 1) := by decide +kernel
theorem dX10_doorsToJoin_70 : decode cX10_doorsToJoin 70 = .ok (.ireturn, 1) := by decide +kernel
theorem dX10_canShutAll_0 : decode cX10_canShutAll 0 = .ok (.aload_n 0, 1) := by decide +kernel
theorem dX10_canShutAll_1 : decode cX10_canShutAll 1 = .ok (.getfield 33, 3) := by decide +kernel
theorem dX10_canShutAll_4 : decode cX10_canShutAll 4 = .ok (.istore 4, 2) := by decide +kernel
theorem dX10_canShutAll_6 : decode cX10_canShutAll 6 = .ok (.iconst 1, 1) := by decide +kernel
theorem dX10_canShutAll_7 : decode cX10_canShutAll 7 = .ok (.iload_n 1, 1) := by decide +kernel
theorem dX10_canShutAll_8 : decode cX10_canShutAll 8 = .ok (.ishl, 1) := by decide +kernel
theorem dX10_canShutAll_9 : decode cX10_canShutAll 9 = .ok (.istore 5, 2) := by decide +kernel
theorem dX10_canShutAll_11 : decode cX10_canShutAll 11 = .ok (.iconst 0, 1) := by decide +kernel
theorem dX10_canShutAll_12 : decode cX10_canShutAll 12 = .ok (.istore 6, 2) := by decide +kernel
theorem dX10_canShutAll_14 : decode cX10_canShutAll 14 = .ok (.iload 6, 2) := by decide +kernel
theorem dX10_canShutAll_16 : decode cX10_canShutAll 16 = .ok (.iload_n 3, 1) := by decide +kernel
theorem dX10_canShutAll_17 : decode cX10_canShutAll 17 = .ok (.if_icmp .ge 56, 3) := by decide +kernel
theorem dX10_canShutAll_20 : decode cX10_canShutAll 20 = .ok (.aload_n 2, 1) := by decide +kernel
theorem dX10_canShutAll_21 : decode cX10_canShutAll 21 = .ok (.iload 6, 2) := by decide +kernel
theorem dX10_canShutAll_23 : decode cX10_canShutAll 23 = .ok (.invokevirtual 54, 3) := by decide +kernel
theorem dX10_canShutAll_26 : decode cX10_canShutAll 26 = .ok (.istore 7, 2) := by decide +kernel
theorem dX10_canShutAll_28 : decode cX10_canShutAll 28 = .ok (.aload_n 0, 1) := by decide +kernel
theorem dX10_canShutAll_29 : decode cX10_canShutAll 29 = .ok (.iload 7, 2) := by decide +kernel
theorem dX10_canShutAll_31 : decode cX10_canShutAll 31 = .ok (.invokevirtual 21, 3) := by decide +kernel
theorem dX10_canShutAll_34 : decode cX10_canShutAll 34 = .ok (.istore 8, 2) := by decide +kernel
theorem dX10_canShutAll_36 : decode cX10_canShutAll 36 = .ok (.aload_n 0, 1) := by decide +kernel
theorem dX10_canShutAll_37 : decode cX10_canShutAll 37 = .ok (.iload 4, 2) := by decide +kernel
theorem dX10_canShutAll_39 : decode cX10_canShutAll 39 = .ok (.iload 5, 2) := by decide +kernel
theorem dX10_canShutAll_41 : decode cX10_canShutAll 41 = .ok (.invokestatic 51, 3) := by decide +kernel
theorem dX10_canShutAll_44 : decode cX10_canShutAll 44 = .ok (.iload 8, 2) := by decide +kernel
theorem dX10_canShutAll_46 : decode cX10_canShutAll 46 = .ok (.iand, 1) := by decide +kernel
theorem dX10_canShutAll_47 : decode cX10_canShutAll 47 = .ok (.ifCond .ne 5, 3) := by decide +kernel
theorem dX10_canShutAll_50 : decode cX10_canShutAll 50 = .ok (.iconst 0, 1) := by decide +kernel
theorem dX10_canShutAll_51 : decode cX10_canShutAll 51 = .ok (.ireturn, 1) := by decide +kernel
theorem dX10_canShutAll_52 : decode cX10_canShutAll 52 = .ok (.iload 8, 2) := by decide +kernel
theorem dX10_canShutAll_54 : decode cX10_canShutAll 54 = .ok (.istore 5, 2) := by decide +kernel
theorem dX10_canShutAll_56 : decode cX10_canShutAll 56 = .ok (.iload 4, 2) := by decide +kernel
theorem dX10_canShutAll_58 : decode cX10_canShutAll 58 = .ok (.iconst 1, 1) := by decide +kernel
theorem dX10_canShutAll_59 : decode cX10_canShutAll 59 = .ok (.iload 7, 2) := by decide +kernel
theorem dX10_canShutAll_61 : decode cX10_canShutAll 61 = .ok (.ishl, 1) := by decide +kernel
theorem dX10_canShutAll_62 : decode cX10_canShutAll 62 = .ok (.iconst (-1), 1) := by decide +kernel
theorem dX10_canShutAll_63 : decode cX10_canShutAll 63 = .ok (.ixor, 1) := by decide +kernel
theorem dX10_canShutAll_64 : decode cX10_canShutAll 64 = .ok (.iand, 1) := by decide +kernel
theorem dX10_canShutAll_65 : decode cX10_canShutAll 65 = .ok (.istore 4, 2) := by decide +kernel
theorem dX10_canShutAll_67 : decode cX10_canShutAll 67 = .ok (.iinc 6 1, 3) := by decide +kernel
theorem dX10_canShutAll_70 : decode cX10_canShutAll 70 = .ok (.goto (-56), 3) := by decide +kernel
theorem dX10_canShutAll_73 : decode cX10_canShutAll 73 = .ok (.iconst 1, 1) := by decide +kernel
theorem dX10_canShutAll_74 : decode cX10_canShutAll 74 = .ok (.ireturn, 1) := by decide +kernel
theorem dX10_outcome_0 : decode cX10_outcome 0 = .ok (.aload_n 0, 1) := by decide +kernel
theorem dX10_outcome_1 : decode cX10_outcome 1 = .ok (.aload_n 1, 1) := by decide +kernel
theorem dX10_outcome_2 : decode cX10_outcome 2 = .ok (.iload_n 2, 1) := by decide +kernel
theorem dX10_outcome_3 : decode cX10_outcome 3 = .ok (.iload_n 3, 1) := by decide +kernel
theorem dX10_outcome_4 : decode cX10_outcome 4 = .ok (.iconst 0, 1) := by decide +kernel
theorem dX10_outcome_5 : decode cX10_outcome 5 = .ok (.invokevirtual 59, 3) := by decide +kernel
theorem dX10_outcome_8 : decode cX10_outcome 8 = .ok (.aload_n 0, 1) := by decide +kernel
theorem dX10_outcome_9 : decode cX10_outcome 9 = .ok (.getfield 9, 3) := by decide +kernel
theorem dX10_outcome_12 : decode cX10_outcome 12 = .ok (.aload_n 1, 1) := by decide +kernel
theorem dX10_outcome_13 : decode cX10_outcome 13 = .ok (.getfield 33, 3) := by decide +kernel
theorem dX10_outcome_16 : decode cX10_outcome 16 = .ok (.iaload, 1) := by decide +kernel
theorem dX10_outcome_17 : decode cX10_outcome 17 = .ok (.ireturn, 1) := by decide +kernel
theorem dX10_bestMove_0 : decode cX10_bestMove 0 = .ok (.aload_n 0, 1) := by decide +kernel
theorem dX10_bestMove_1 : decode cX10_bestMove 1 = .ok (.aload_n 1, 1) := by decide +kernel
theorem dX10_bestMove_2 : decode cX10_bestMove 2 = .ok (.iload_n 2, 1) := by decide +kernel
theorem dX10_bestMove_3 : decode cX10_bestMove 3 = .ok (.iload_n 3, 1) := by decide +kernel
theorem dX10_bestMove_4 : decode cX10_bestMove 4 = .ok (.iconst 1, 1) := by decide +kernel
theorem dX10_bestMove_5 : decode cX10_bestMove 5 = .ok (.invokevirtual 59, 3) := by decide +kernel
theorem dX10_bestMove_8 : decode cX10_bestMove 8 = .ok (.aload_n 0, 1) := by decide +kernel
theorem dX10_bestMove_9 : decode cX10_bestMove 9 = .ok (.getfield 9, 3) := by decide +kernel
theorem dX10_bestMove_12 : decode cX10_bestMove 12 = .ok (.aload_n 1, 1) := by decide +kernel
theorem dX10_bestMove_13 : decode cX10_bestMove 13 = .ok (.getfield 33, 3) := by decide +kernel
theorem dX10_bestMove_16 : decode cX10_bestMove 16 = .ok (.iaload, 1) := by decide +kernel
theorem dX10_bestMove_17 : decode cX10_bestMove 17 = .ok (.istore 4, 2) := by decide +kernel
theorem dX10_bestMove_19 : decode cX10_bestMove 19 = .ok (.iconst (-1), 1) := by decide +kernel
theorem dX10_bestMove_20 : decode cX10_bestMove 20 = .ok (.istore 5, 2) := by decide +kernel
theorem dX10_bestMove_22 : decode cX10_bestMove 22 = .ok (.iconst 0, 1) := by decide +kernel
theorem dX10_bestMove_23 : decode cX10_bestMove 23 = .ok (.istore 6, 2) := by decide +kernel
theorem dX10_bestMove_25 : decode cX10_bestMove 25 = .ok (.iload 6, 2) := by decide +kernel
theorem dX10_bestMove_27 : decode cX10_bestMove 27 = .ok (.aload_n 1, 1) := by decide +kernel
theorem dX10_bestMove_28 : decode cX10_bestMove 28 = .ok (.getfield 15, 3) := by decide +kernel
theorem dX10_bestMove_31 : decode cX10_bestMove 31 = .ok (.if_icmp .ge 62, 3) := by decide +kernel
theorem dX10_bestMove_34 : decode cX10_bestMove 34 = .ok (.aload_n 1, 1) := by decide +kernel
theorem dX10_bestMove_35 : decode cX10_bestMove 35 = .ok (.iload 6, 2) := by decide +kernel
theorem dX10_bestMove_37 : decode cX10_bestMove 37 = .ok (.invokevirtual 63, 3) := by decide +kernel
theorem dX10_bestMove_40 : decode cX10_bestMove 40 = .ok (.ifCond .eq 47, 3) := by decide +kernel
theorem dX10_bestMove_43 : decode cX10_bestMove 43 = .ok (.aload_n 0, 1) := by decide +kernel
theorem dX10_bestMove_44 : decode cX10_bestMove 44 = .ok (.getfield 9, 3) := by decide +kernel
theorem dX10_bestMove_47 : decode cX10_bestMove 47 = .ok (.aload_n 1, 1) := by decide +kernel
theorem dX10_bestMove_48 : decode cX10_bestMove 48 = .ok (.getfield 33, 3) := by decide +kernel
theorem dX10_bestMove_51 : decode cX10_bestMove 51 = .ok (.iconst 1, 1) := by decide +kernel
theorem dX10_bestMove_52 : decode cX10_bestMove 52 = .ok (.iload 6, 2) := by decide +kernel
theorem dX10_bestMove_54 : decode cX10_bestMove 54 = .ok (.ishl, 1) := by decide +kernel
theorem dX10_bestMove_55 : decode cX10_bestMove 55 = .ok (.ixor, 1) := by decide +kernel
theorem dX10_bestMove_56 : decode cX10_bestMove 56 = .ok (.iaload, 1) := by decide +kernel
theorem dX10_bestMove_57 : decode cX10_bestMove 57 = .ok (.istore 7, 2) := by decide +kernel
theorem dX10_bestMove_59 : decode cX10_bestMove 59 = .ok (.iload 7, 2) := by decide +kernel
theorem dX10_bestMove_61 : decode cX10_bestMove 61 = .ok (.iload 4, 2) := by decide +kernel
theorem dX10_bestMove_63 : decode cX10_bestMove 63 = .ok (.if_icmp .lt 16, 3) := by decide +kernel
theorem dX10_bestMove_66 : decode cX10_bestMove 66 = .ok (.iload 7, 2) := by decide +kernel
theorem dX10_bestMove_68 : decode cX10_bestMove 68 = .ok (.iload 4, 2) := by decide +kernel
theorem dX10_bestMove_70 : decode cX10_bestMove 70 = .ok (.if_icmp .ne 17, 3) := by decide +kernel
theorem dX10_bestMove_73 : decode cX10_bestMove 73 = .ok (.iload 5, 2) := by decide +kernel
theorem dX10_bestMove_75 : decode cX10_bestMove 75 = .ok (.iconst (-1), 1) := by decide +kernel
theorem dX10_bestMove_76 : decode cX10_bestMove 76 = .ok (.if_icmp .ne 11, 3) := by decide +kernel
theorem dX10_bestMove_79 : decode cX10_bestMove 79 = .ok (.iload 7, 2) := by decide +kernel
theorem dX10_bestMove_81 : decode cX10_bestMove 81 = .ok (.istore 4, 2) := by decide +kernel
theorem dX10_bestMove_83 : decode cX10_bestMove 83 = .ok (.iload 6, 2) := by decide +kernel
theorem dX10_bestMove_85 : decode cX10_bestMove 85 = .ok (.istore 5, 2) := by decide +kernel
theorem dX10_bestMove_87 : decode cX10_bestMove 87 = .ok (.iinc 6 1, 3) := by decide +kernel
theorem dX10_bestMove_90 : decode cX10_bestMove 90 = .ok (.goto (-65), 3) := by decide +kernel
theorem dX10_bestMove_93 : decode cX10_bestMove 93 = .ok (.iload 5, 2) := by decide +kernel
theorem dX10_bestMove_95 : decode cX10_bestMove 95 = .ok (.ireturn, 1) := by decide +kernel
theorem dX10_playBack_0 : decode cX10_playBack 0 = .ok (.iconst 1, 1) := by decide +kernel
theorem dX10_playBack_1 : decode cX10_playBack 1 = .ok (.aload_n 1, 1) := by decide +kernel
theorem dX10_playBack_2 : decode cX10_playBack 2 = .ok (.getfield 15, 3) := by decide +kernel
theorem dX10_playBack_5 : decode cX10_playBack 5 = .ok (.ishl, 1) := by decide +kernel
theorem dX10_playBack_6 : decode cX10_playBack 6 = .ok (.istore 5, 2) := by decide +kernel
theorem dX10_playBack_8 : decode cX10_playBack 8 = .ok (.iconst 0, 1) := by decide +kernel
theorem dX10_playBack_9 : decode cX10_playBack 9 = .ok (.istore 6, 2) := by decide +kernel
theorem dX10_playBack_11 : decode cX10_playBack 11 = .ok (.iload 6, 2) := by decide +kernel
theorem dX10_playBack_13 : decode cX10_playBack 13 = .ok (.iload 5, 2) := by decide +kernel
theorem dX10_playBack_15 : decode cX10_playBack 15 = .ok (.if_icmp .ge 28, 3) := by decide +kernel
theorem dX10_playBack_18 : decode cX10_playBack 18 = .ok (.aload_n 0, 1) := by decide +kernel
theorem dX10_playBack_19 : decode cX10_playBack 19 = .ok (.getfield 9, 3) := by decide +kernel
theorem dX10_playBack_22 : decode cX10_playBack 22 = .ok (.iload 6, 2) := by decide +kernel
theorem dX10_playBack_24 : decode cX10_playBack 24 = .ok (.aload_n 1, 1) := by decide +kernel
theorem dX10_playBack_25 : decode cX10_playBack 25 = .ok (.iload 6, 2) := by decide +kernel
theorem dX10_playBack_27 : decode cX10_playBack 27 = .ok (.iconst 1, 1) := by decide +kernel
theorem dX10_playBack_28 : decode cX10_playBack 28 = .ok (.iload_n 2, 1) := by decide +kernel
theorem dX10_playBack_29 : decode cX10_playBack 29 = .ok (.ishl, 1) := by decide +kernel
theorem dX10_playBack_30 : decode cX10_playBack 30 = .ok (.invokestatic 51, 3) := by decide +kernel
theorem dX10_playBack_33 : decode cX10_playBack 33 = .ok (.invokestatic 46, 3) := by decide +kernel
theorem dX10_playBack_36 : decode cX10_playBack 36 = .ok (.iastore, 1) := by decide +kernel
theorem dX10_playBack_37 : decode cX10_playBack 37 = .ok (.iinc 6 1, 3) := by decide +kernel
theorem dX10_playBack_40 : decode cX10_playBack 40 = .ok (.goto (-29), 3) := by decide +kernel
theorem dX10_playBack_43 : decode cX10_playBack 43 = .ok (.iload_n 3, 1) := by decide +kernel
theorem dX10_playBack_44 : decode cX10_playBack 44 = .ok (.iconst 1, 1) := by decide +kernel
theorem dX10_playBack_45 : decode cX10_playBack 45 = .ok (.isub, 1) := by decide +kernel
theorem dX10_playBack_46 : decode cX10_playBack 46 = .ok (.istore 6, 2) := by decide +kernel
theorem dX10_playBack_48 : decode cX10_playBack 48 = .ok (.iload 6, 2) := by decide +kernel
theorem dX10_playBack_50 : decode cX10_playBack 50 = .ok (.iload 4, 2) := by decide +kernel
theorem dX10_playBack_52 : decode cX10_playBack 52 = .ok (.if_icmp .lt 33, 3) := by decide +kernel
theorem dX10_playBack_55 : decode cX10_playBack 55 = .ok (.iload 6, 2) := by decide +kernel
theorem dX10_playBack_57 : decode cX10_playBack 57 = .ok (.iconst 2, 1) := by decide +kernel
theorem dX10_playBack_58 : decode cX10_playBack 58 = .ok (.irem, 1) := by decide +kernel
theorem dX10_playBack_59 : decode cX10_playBack 59 = .ok (.ifCond .ne 13, 3) := by decide +kernel
theorem dX10_playBack_62 : decode cX10_playBack 62 = .ok (.aload_n 0, 1) := by decide +kernel
theorem dX10_playBack_63 : decode cX10_playBack 63 = .ok (.aload_n 1, 1) := by decide +kernel
theorem dX10_playBack_64 : decode cX10_playBack 64 = .ok (.iload 5, 2) := by decide +kernel
theorem dX10_playBack_66 : decode cX10_playBack 66 = .ok (.invokevirtual 67, 3) := by decide +kernel
theorem dX10_playBack_69 : decode cX10_playBack 69 = .ok (.goto 10, 3) := by decide +kernel
theorem dX10_playBack_72 : decode cX10_playBack 72 = .ok (.aload_n 0, 1) := by decide +kernel
theorem dX10_playBack_73 : decode cX10_playBack 73 = .ok (.aload_n 1, 1) := by decide +kernel
theorem dX10_playBack_74 : decode cX10_playBack 74 = .ok (.iload 5, 2) := by decide +kernel
theorem dX10_playBack_76 : decode cX10_playBack 76 = .ok (.invokevirtual 71, 3) := by decide +kernel
theorem dX10_playBack_79 : decode cX10_playBack 79 = .ok (.iinc 6 (-1), 3) := by decide +kernel
theorem dX10_playBack_82 : decode cX10_playBack 82 = .ok (.goto (-34), 3) := by decide +kernel
theorem dX10_playBack_85 : decode cX10_playBack 85 = .ok (.return_, 1) := by decide +kernel
theorem dX10_shutterPlays_0 : decode cX10_shutterPlays 0 = .ok (.iload_n 2, 1) := by decide +kernel
theorem dX10_shutterPlays_1 : decode cX10_shutterPlays 1 = .ok (.iconst 1, 1) := by decide +kernel
theorem dX10_shutterPlays_2 : decode cX10_shutterPlays 2 = .ok (.isub, 1) := by decide +kernel
theorem dX10_shutterPlays_3 : decode cX10_shutterPlays 3 = .ok (.istore_n 3, 1) := by decide +kernel
theorem dX10_shutterPlays_4 : decode cX10_shutterPlays 4 = .ok (.iload_n 3, 1) := by decide +kernel
theorem dX10_shutterPlays_5 : decode cX10_shutterPlays 5 = .ok (.ifCond .lt 62, 3) := by decide +kernel
theorem dX10_shutterPlays_8 : decode cX10_shutterPlays 8 = .ok (.iconst 0, 1) := by decide +kernel
theorem dX10_shutterPlays_9 : decode cX10_shutterPlays 9 = .ok (.istore 4, 2) := by decide +kernel
theorem dX10_shutterPlays_11 : decode cX10_shutterPlays 11 = .ok (.iload 4, 2) := by decide +kernel
theorem dX10_shutterPlays_13 : decode cX10_shutterPlays 13 = .ok (.aload_n 1, 1) := by decide +kernel
theorem dX10_shutterPlays_14 : decode cX10_shutterPlays 14 = .ok (.getfield 15, 3) := by decide +kernel
theorem dX10_shutterPlays_17 : decode cX10_shutterPlays 17 = .ok (.if_icmp .ge 44, 3) := by decide +kernel
theorem dX10_shutterPlays_20 : decode cX10_shutterPlays 20 = .ok (.iload_n 3, 1) := by decide +kernel
theorem dX10_shutterPlays_21 : decode cX10_shutterPlays 21 = .ok (.iload 4, 2) := by decide +kernel
theorem dX10_shutterPlays_23 : decode cX10_shutterPlays 23 = .ok (.invokestatic 25, 3) := by decide +kernel
theorem dX10_shutterPlays_26 : decode cX10_shutterPlays 26 = .ok (.ifCond .eq 29, 3) := by decide +kernel
theorem dX10_shutterPlays_29 : decode cX10_shutterPlays 29 = .ok (.aload_n 0, 1) := by decide +kernel
theorem dX10_shutterPlays_30 : decode cX10_shutterPlays 30 = .ok (.getfield 9, 3) := by decide +kernel
theorem dX10_shutterPlays_33 : decode cX10_shutterPlays 33 = .ok (.iload_n 3, 1) := by decide +kernel
theorem dX10_shutterPlays_34 : decode cX10_shutterPlays 34 = .ok (.aload_n 0, 1) := by decide +kernel
theorem dX10_shutterPlays_35 : decode cX10_shutterPlays 35 = .ok (.getfield 9, 3) := by decide +kernel
theorem dX10_shutterPlays_38 : decode cX10_shutterPlays 38 = .ok (.iload_n 3, 1) := by decide +kernel
theorem dX10_shutterPlays_39 : decode cX10_shutterPlays 39 = .ok (.iaload, 1) := by decide +kernel
theorem dX10_shutterPlays_40 : decode cX10_shutterPlays 40 = .ok (.aload_n 0, 1) := by decide +kernel
theorem dX10_shutterPlays_41 : decode cX10_shutterPlays 41 = .ok (.getfield 9, 3) := by decide +kernel
theorem dX10_shutterPlays_44 : decode cX10_shutterPlays 44 = .ok (.iload_n 3, 1) := by decide +kernel
theorem dX10_shutterPlays_45 : decode cX10_shutterPlays 45 = .ok (.iconst 1, 1) := by decide +kernel
theorem dX10_shutterPlays_46 : decode cX10_shutterPlays 46 = .ok (.iload 4, 2) := by decide +kernel
theorem dX10_shutterPlays_48 : decode cX10_shutterPlays 48 = .ok (.ishl, 1) := by decide +kernel
theorem dX10_shutterPlays_49 : decode cX10_shutterPlays 49 = .ok (.ixor, 1) := by decide +kernel
theorem dX10_shutterPlays_50 : decode cX10_shutterPlays 50 = .ok (.iaload, 1) := by decide +kernel
theorem dX10_shutterPlays_51 : decode cX10_shutterPlays 51 = .ok (.invokestatic 74, 3) := by decide +kernel
theorem dX10_shutterPlays_54 : decode cX10_shutterPlays 54 = .ok (.iastore, 1) := by decide +kernel
theorem dX10_shutterPlays_55 : decode cX10_shutterPlays 55 = .ok (.iinc 4 1, 3) := by decide +kernel
theorem dX10_shutterPlays_58 : decode cX10_shutterPlays 58 = .ok (.goto (-47), 3) := by decide +kernel
theorem dX10_shutterPlays_61 : decode cX10_shutterPlays 61 = .ok (.iinc 3 (-1), 3) := by decide +kernel
theorem dX10_shutterPlays_64 : decode cX10_shutterPlays 64 = .ok (.goto (-60), 3) := by decide +kernel
theorem dX10_shutterPlays_67 : decode cX10_shutterPlays 67 = .ok (.return_, 1) := by decide +kernel
theorem dX10_openerPlays_0 : decode cX10_openerPlays 0 = .ok (.iconst 0, 1) := by decide +kernel
theorem dX10_openerPlays_1 : decode cX10_openerPlays 1 = .ok (.istore_n 3, 1) := by decide +kernel
theorem dX10_openerPlays_2 : decode cX10_openerPlays 2 = .ok (.iload_n 3, 1) := by decide +kernel
theorem dX10_openerPlays_3 : decode cX10_openerPlays 3 = .ok (.iload_n 2, 1) := by decide +kernel
theorem dX10_openerPlays_4 : decode cX10_openerPlays 4 = .ok (.if_icmp .ge 62, 3) := by decide +kernel
theorem dX10_openerPlays_7 : decode cX10_openerPlays 7 = .ok (.iconst 0, 1) := by decide +kernel
theorem dX10_openerPlays_8 : decode cX10_openerPlays 8 = .ok (.istore 4, 2) := by decide +kernel
theorem dX10_openerPlays_10 : decode cX10_openerPlays 10 = .ok (.iload 4, 2) := by decide +kernel
theorem dX10_openerPlays_12 : decode cX10_openerPlays 12 = .ok (.aload_n 1, 1) := by decide +kernel
theorem dX10_openerPlays_13 : decode cX10_openerPlays 13 = .ok (.getfield 15, 3) := by decide +kernel
theorem dX10_openerPlays_16 : decode cX10_openerPlays 16 = .ok (.if_icmp .ge 44, 3) := by decide +kernel
theorem dX10_openerPlays_19 : decode cX10_openerPlays 19 = .ok (.iload_n 3, 1) := by decide +kernel
theorem dX10_openerPlays_20 : decode cX10_openerPlays 20 = .ok (.iload 4, 2) := by decide +kernel
theorem dX10_openerPlays_22 : decode cX10_openerPlays 22 = .ok (.invokestatic 25, 3) := by decide +kernel
theorem dX10_openerPlays_25 : decode cX10_openerPlays 25 = .ok (.ifCond .ne 29, 3) := by decide +kernel
theorem dX10_openerPlays_28 : decode cX10_openerPlays 28 = .ok (.aload_n 0, 1) := by decide +kernel
theorem dX10_openerPlays_29 : decode cX10_openerPlays 29 = .ok (.getfield 9, 3) := by decide +kernel
theorem dX10_openerPlays_32 : decode cX10_openerPlays 32 = .ok (.iload_n 3, 1) := by decide +kernel
theorem dX10_openerPlays_33 : decode cX10_openerPlays 33 = .ok (.aload_n 0, 1) := by decide +kernel
theorem dX10_openerPlays_34 : decode cX10_openerPlays 34 = .ok (.getfield 9, 3) := by decide +kernel
theorem dX10_openerPlays_37 : decode cX10_openerPlays 37 = .ok (.iload_n 3, 1) := by decide +kernel
theorem dX10_openerPlays_38 : decode cX10_openerPlays 38 = .ok (.iaload, 1) := by decide +kernel
theorem dX10_openerPlays_39 : decode cX10_openerPlays 39 = .ok (.aload_n 0, 1) := by decide +kernel
theorem dX10_openerPlays_40 : decode cX10_openerPlays 40 = .ok (.getfield 9, 3) := by decide +kernel
theorem dX10_openerPlays_43 : decode cX10_openerPlays 43 = .ok (.iload_n 3, 1) := by decide +kernel
theorem dX10_openerPlays_44 : decode cX10_openerPlays 44 = .ok (.iconst 1, 1) := by decide +kernel
theorem dX10_openerPlays_45 : decode cX10_openerPlays 45 = .ok (.iload 4, 2) := by decide +kernel
theorem dX10_openerPlays_47 : decode cX10_openerPlays 47 = .ok (.ishl, 1) := by decide +kernel
theorem dX10_openerPlays_48 : decode cX10_openerPlays 48 = .ok (.ior, 1) := by decide +kernel
theorem dX10_openerPlays_49 : decode cX10_openerPlays 49 = .ok (.iaload, 1) := by decide +kernel
theorem dX10_openerPlays_50 : decode cX10_openerPlays 50 = .ok (.invokestatic 80, 3) := by decide +kernel
theorem dX10_openerPlays_53 : decode cX10_openerPlays 53 = .ok (.iastore, 1) := by decide +kernel
theorem dX10_openerPlays_54 : decode cX10_openerPlays 54 = .ok (.iinc 4 1, 3) := by decide +kernel
theorem dX10_openerPlays_57 : decode cX10_openerPlays 57 = .ok (.goto (-47), 3) := by decide +kernel
theorem dX10_openerPlays_60 : decode cX10_openerPlays 60 = .ok (.iinc 3 1, 3) := by decide +kernel
theorem dX10_openerPlays_63 : decode cX10_openerPlays 63 = .ok (.goto (-61), 3) := by decide +kernel
theorem dX10_openerPlays_66 : decode cX10_openerPlays 66 = .ok (.return_, 1) := by decide +kernel
