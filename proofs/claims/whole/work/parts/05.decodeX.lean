theorem dX0_init_0 : decode cX0_init 0 = .ok (.aload_n 0, 1) := by decide +kernel
theorem dX0_init_1 : decode cX0_init 1 = .ok (.invokespecial 3, 3) := by decide +kernel
theorem dX0_init_4 : decode cX0_init 4 = .ok (.aload_n 0, 1) := by decide +kernel
theorem dX0_init_5 : decode cX0_init 5 = .ok (.iconst 0, 1) := by decide +kernel
theorem dX0_init_6 : decode cX0_init 6 = .ok (.putfield 9, 3) := by decide +kernel
theorem dX0_init_9 : decode cX0_init 9 = .ok (.aload_n 0, 1) := by decide +kernel
theorem dX0_init_10 : decode cX0_init 10 = .ok (.bipush 12, 2) := by decide +kernel
theorem dX0_init_12 : decode cX0_init 12 = .ok (.newarray .int, 2) := by decide +kernel
theorem dX0_init_14 : decode cX0_init 14 = .ok (.putfield 15, 3) := by decide +kernel
theorem dX0_init_17 : decode cX0_init 17 = .ok (.aload_n 0, 1) := by decide +kernel
theorem dX0_init_18 : decode cX0_init 18 = .ok (.bipush 12, 2) := by decide +kernel
theorem dX0_init_20 : decode cX0_init 20 = .ok (.newarray .int, 2) := by decide +kernel
theorem dX0_init_22 : decode cX0_init 22 = .ok (.putfield 19, 3) := by decide +kernel
theorem dX0_init_25 : decode cX0_init 25 = .ok (.aload_n 0, 1) := by decide +kernel
theorem dX0_init_26 : decode cX0_init 26 = .ok (.bipush 12, 2) := by decide +kernel
theorem dX0_init_28 : decode cX0_init 28 = .ok (.newarray .int, 2) := by decide +kernel
theorem dX0_init_30 : decode cX0_init 30 = .ok (.putfield 22, 3) := by decide +kernel
theorem dX0_init_33 : decode cX0_init 33 = .ok (.aload_n 0, 1) := by decide +kernel
theorem dX0_init_34 : decode cX0_init 34 = .ok (.bipush 12, 2) := by decide +kernel
theorem dX0_init_36 : decode cX0_init 36 = .ok (.newarray .int, 2) := by decide +kernel
theorem dX0_init_38 : decode cX0_init 38 = .ok (.putfield 25, 3) := by decide +kernel
theorem dX0_init_41 : decode cX0_init 41 = .ok (.aload_n 0, 1) := by decide +kernel
theorem dX0_init_42 : decode cX0_init 42 = .ok (.bipush 12, 2) := by decide +kernel
theorem dX0_init_44 : decode cX0_init 44 = .ok (.newarray .int, 2) := by decide +kernel
theorem dX0_init_46 : decode cX0_init 46 = .ok (.putfield 28, 3) := by decide +kernel
theorem dX0_init_49 : decode cX0_init 49 = .ok (.aload_n 0, 1) := by decide +kernel
theorem dX0_init_50 : decode cX0_init 50 = .ok (.bipush 12, 2) := by decide +kernel
theorem dX0_init_52 : decode cX0_init 52 = .ok (.newarray .int, 2) := by decide +kernel
theorem dX0_init_54 : decode cX0_init 54 = .ok (.putfield 31, 3) := by decide +kernel
theorem dX0_init_57 : decode cX0_init 57 = .ok (.aload_n 0, 1) := by decide +kernel
theorem dX0_init_58 : decode cX0_init 58 = .ok (.bipush 12, 2) := by decide +kernel
theorem dX0_init_60 : decode cX0_init 60 = .ok (.newarray .int, 2) := by decide +kernel
theorem dX0_init_62 : decode cX0_init 62 = .ok (.putfield 34, 3) := by decide +kernel
theorem dX0_init_65 : decode cX0_init 65 = .ok (.aload_n 0, 1) := by decide +kernel
theorem dX0_init_66 : decode cX0_init 66 = .ok (.bipush 12, 2) := by decide +kernel
theorem dX0_init_68 : decode cX0_init 68 = .ok (.newarray .int, 2) := by decide +kernel
theorem dX0_init_70 : decode cX0_init 70 = .ok (.putfield 37, 3) := by decide +kernel
theorem dX0_init_73 : decode cX0_init 73 = .ok (.aload_n 0, 1) := by decide +kernel
theorem dX0_init_74 : decode cX0_init 74 = .ok (.sipush 144, 3) := by decide +kernel
theorem dX0_init_77 : decode cX0_init 77 = .ok (.newarray .int, 2) := by decide +kernel
theorem dX0_init_79 : decode cX0_init 79 = .ok (.putfield 40, 3) := by decide +kernel
theorem dX0_init_82 : decode cX0_init 82 = .ok (.aload_n 0, 1) := by decide +kernel
theorem dX0_init_83 : decode cX0_init 83 = .ok (.sipush 144, 3) := by decide +kernel
theorem dX0_init_86 : decode cX0_init 86 = .ok (.newarray .int, 2) := by decide +kernel
theorem dX0_init_88 : decode cX0_init 88 = .ok (.putfield 43, 3) := by decide +kernel
theorem dX0_init_91 : decode cX0_init 91 = .ok (.aload_n 0, 1) := by decide +kernel
theorem dX0_init_92 : decode cX0_init 92 = .ok (.sipush 144, 3) := by decide +kernel
theorem dX0_init_95 : decode cX0_init 95 = .ok (.newarray .int, 2) := by decide +kernel
theorem dX0_init_97 : decode cX0_init 97 = .ok (.putfield 46, 3) := by decide +kernel
theorem dX0_init_100 : decode cX0_init 100 = .ok (.aload_n 0, 1) := by decide +kernel
theorem dX0_init_101 : decode cX0_init 101 = .ok (.bipush 24, 2) := by decide +kernel
theorem dX0_init_103 : decode cX0_init 103 = .ok (.newarray .int, 2) := by decide +kernel
theorem dX0_init_105 : decode cX0_init 105 = .ok (.putfield 49, 3) := by decide +kernel
theorem dX0_init_108 : decode cX0_init 108 = .ok (.aload_n 0, 1) := by decide +kernel
theorem dX0_init_109 : decode cX0_init 109 = .ok (.bipush 24, 2) := by decide +kernel
theorem dX0_init_111 : decode cX0_init 111 = .ok (.newarray .boolean, 2) := by decide +kernel
theorem dX0_init_113 : decode cX0_init 113 = .ok (.putfield 52, 3) := by decide +kernel
theorem dX0_init_116 : decode cX0_init 116 = .ok (.return_, 1) := by decide +kernel
theorem dX0_layOut_0 : decode cX0_layOut 0 = .ok (.aload_n 0, 1) := by decide +kernel
theorem dX0_layOut_1 : decode cX0_layOut 1 = .ok (.aload_n 1, 1) := by decide +kernel
theorem dX0_layOut_2 : decode cX0_layOut 2 = .ok (.getfield 56, 3) := by decide +kernel
theorem dX0_layOut_5 : decode cX0_layOut 5 = .ok (.putfield 9, 3) := by decide +kernel
theorem dX0_layOut_8 : decode cX0_layOut 8 = .ok (.aload_n 0, 1) := by decide +kernel
theorem dX0_layOut_9 : decode cX0_layOut 9 = .ok (.getfield 40, 3) := by decide +kernel
theorem dX0_layOut_12 : decode cX0_layOut 12 = .ok (.iconst 0, 1) := by decide +kernel
theorem dX0_layOut_13 : decode cX0_layOut 13 = .ok (.invokestatic 61, 3) := by decide +kernel
theorem dX0_layOut_16 : decode cX0_layOut 16 = .ok (.aload_n 0, 1) := by decide +kernel
theorem dX0_layOut_17 : decode cX0_layOut 17 = .ok (.getfield 43, 3) := by decide +kernel
theorem dX0_layOut_20 : decode cX0_layOut 20 = .ok (.iconst 0, 1) := by decide +kernel
theorem dX0_layOut_21 : decode cX0_layOut 21 = .ok (.invokestatic 61, 3) := by decide +kernel
theorem dX0_layOut_24 : decode cX0_layOut 24 = .ok (.aload_n 0, 1) := by decide +kernel
theorem dX0_layOut_25 : decode cX0_layOut 25 = .ok (.getfield 46, 3) := by decide +kernel
theorem dX0_layOut_28 : decode cX0_layOut 28 = .ok (.iconst 0, 1) := by decide +kernel
theorem dX0_layOut_29 : decode cX0_layOut 29 = .ok (.invokestatic 61, 3) := by decide +kernel
theorem dX0_layOut_32 : decode cX0_layOut 32 = .ok (.aload_n 0, 1) := by decide +kernel
theorem dX0_layOut_33 : decode cX0_layOut 33 = .ok (.getfield 49, 3) := by decide +kernel
theorem dX0_layOut_36 : decode cX0_layOut 36 = .ok (.iconst 0, 1) := by decide +kernel
theorem dX0_layOut_37 : decode cX0_layOut 37 = .ok (.invokestatic 61, 3) := by decide +kernel
theorem dX0_layOut_40 : decode cX0_layOut 40 = .ok (.iconst 0, 1) := by decide +kernel
theorem dX0_layOut_41 : decode cX0_layOut 41 = .ok (.istore_n 3, 1) := by decide +kernel
theorem dX0_layOut_42 : decode cX0_layOut 42 = .ok (.iload_n 3, 1) := by decide +kernel
theorem dX0_layOut_43 : decode cX0_layOut 43 = .ok (.bipush 24, 2) := by decide +kernel
theorem dX0_layOut_45 : decode cX0_layOut 45 = .ok (.if_icmp .ge 16, 3) := by decide +kernel
theorem dX0_layOut_48 : decode cX0_layOut 48 = .ok (.aload_n 0, 1) := by decide +kernel
theorem dX0_layOut_49 : decode cX0_layOut 49 = .ok (.getfield 52, 3) := by decide +kernel
theorem dX0_layOut_52 : decode cX0_layOut 52 = .ok (.iload_n 3, 1) := by decide +kernel
theorem dX0_layOut_53 : decode cX0_layOut 53 = .ok (.iconst 0, 1) := by decide +kernel
theorem dX0_layOut_54 : decode cX0_layOut 54 = .ok (.bastore, 1) := by decide +kernel
theorem dX0_layOut_55 : decode cX0_layOut 55 = .ok (.iinc 3 1, 3) := by decide +kernel
theorem dX0_layOut_58 : decode cX0_layOut 58 = .ok (.goto (-16), 3) := by decide +kernel
theorem dX0_layOut_61 : decode cX0_layOut 61 = .ok (.iconst 0, 1) := by decide +kernel
theorem dX0_layOut_62 : decode cX0_layOut 62 = .ok (.istore_n 3, 1) := by decide +kernel
theorem dX0_layOut_63 : decode cX0_layOut 63 = .ok (.iload_n 3, 1) := by decide +kernel
theorem dX0_layOut_64 : decode cX0_layOut 64 = .ok (.aload_n 2, 1) := by decide +kernel
theorem dX0_layOut_65 : decode cX0_layOut 65 = .ok (.getfield 56, 3) := by decide +kernel
theorem dX0_layOut_68 : decode cX0_layOut 68 = .ok (.if_icmp .ge 53, 3) := by decide +kernel
theorem dX0_layOut_71 : decode cX0_layOut 71 = .ok (.aload_n 2, 1) := by decide +kernel
theorem dX0_layOut_72 : decode cX0_layOut 72 = .ok (.iload_n 3, 1) := by decide +kernel
theorem dX0_layOut_73 : decode cX0_layOut 73 = .ok (.iconst 1, 1) := by decide +kernel
theorem dX0_layOut_74 : decode cX0_layOut 74 = .ok (.invokevirtual 67, 3) := by decide +kernel
theorem dX0_layOut_77 : decode cX0_layOut 77 = .ok (.istore 4, 2) := by decide +kernel
theorem dX0_layOut_79 : decode cX0_layOut 79 = .ok (.aload_n 0, 1) := by decide +kernel
theorem dX0_layOut_80 : decode cX0_layOut 80 = .ok (.getfield 46, 3) := by decide +kernel
theorem dX0_layOut_83 : decode cX0_layOut 83 = .ok (.iload 4, 2) := by decide +kernel
theorem dX0_layOut_85 : decode cX0_layOut 85 = .ok (.bipush 6, 2) := by decide +kernel
theorem dX0_layOut_87 : decode cX0_layOut 87 = .ok (.imul, 1) := by decide +kernel
theorem dX0_layOut_88 : decode cX0_layOut 88 = .ok (.aload_n 2, 1) := by decide +kernel
theorem dX0_layOut_89 : decode cX0_layOut 89 = .ok (.iload_n 3, 1) := by decide +kernel
theorem dX0_layOut_90 : decode cX0_layOut 90 = .ok (.iconst 0, 1) := by decide +kernel
theorem dX0_layOut_91 : decode cX0_layOut 91 = .ok (.invokevirtual 67, 3) := by decide +kernel
theorem dX0_layOut_94 : decode cX0_layOut 94 = .ok (.iadd, 1) := by decide +kernel
theorem dX0_layOut_95 : decode cX0_layOut 95 = .ok (.dup2, 1) := by decide +kernel
theorem dX0_layOut_96 : decode cX0_layOut 96 = .ok (.iaload, 1) := by decide +kernel
theorem dX0_layOut_97 : decode cX0_layOut 97 = .ok (.aload_n 2, 1) := by decide +kernel
theorem dX0_layOut_98 : decode cX0_layOut 98 = .ok (.iload_n 3, 1) := by decide +kernel
theorem dX0_layOut_99 : decode cX0_layOut 99 = .ok (.iconst 2, 1) := by decide +kernel
theorem dX0_layOut_100 : decode cX0_layOut 100 = .ok (.invokevirtual 67, 3) := by decide +kernel
theorem dX0_layOut_103 : decode cX0_layOut 103 = .ok (.iconst 1, 1) := by decide +kernel
theorem dX0_layOut_104 : decode cX0_layOut 104 = .ok (.iadd, 1) := by decide +kernel
theorem dX0_layOut_105 : decode cX0_layOut 105 = .ok (.iadd, 1) := by decide +kernel
theorem dX0_layOut_106 : decode cX0_layOut 106 = .ok (.iastore, 1) := by decide +kernel
theorem dX0_layOut_107 : decode cX0_layOut 107 = .ok (.aload_n 0, 1) := by decide +kernel
theorem dX0_layOut_108 : decode cX0_layOut 108 = .ok (.getfield 52, 3) := by decide +kernel
theorem dX0_layOut_111 : decode cX0_layOut 111 = .ok (.iload 4, 2) := by decide +kernel
theorem dX0_layOut_113 : decode cX0_layOut 113 = .ok (.iconst 1, 1) := by decide +kernel
theorem dX0_layOut_114 : decode cX0_layOut 114 = .ok (.bastore, 1) := by decide +kernel
theorem dX0_layOut_115 : decode cX0_layOut 115 = .ok (.iinc 3 1, 3) := by decide +kernel
theorem dX0_layOut_118 : decode cX0_layOut 118 = .ok (.goto (-55), 3) := by decide +kernel
theorem dX0_layOut_121 : decode cX0_layOut 121 = .ok (.iconst 0, 1) := by decide +kernel
theorem dX0_layOut_122 : decode cX0_layOut 122 = .ok (.istore_n 3, 1) := by decide +kernel
theorem dX0_layOut_123 : decode cX0_layOut 123 = .ok (.iload_n 3, 1) := by decide +kernel
theorem dX0_layOut_124 : decode cX0_layOut 124 = .ok (.aload_n 0, 1) := by decide +kernel
theorem dX0_layOut_125 : decode cX0_layOut 125 = .ok (.getfield 9, 3) := by decide +kernel
theorem dX0_layOut_128 : decode cX0_layOut 128 = .ok (.if_icmp .ge 76, 3) := by decide +kernel
theorem dX0_layOut_131 : decode cX0_layOut 131 = .ok (.aload_n 0, 1) := by decide +kernel
theorem dX0_layOut_132 : decode cX0_layOut 132 = .ok (.getfield 15, 3) := by decide +kernel
theorem dX0_layOut_135 : decode cX0_layOut 135 = .ok (.iload_n 3, 1) := by decide +kernel
theorem dX0_layOut_136 : decode cX0_layOut 136 = .ok (.iconst 1, 1) := by decide +kernel
theorem dX0_layOut_137 : decode cX0_layOut 137 = .ok (.aload_n 1, 1) := by decide +kernel
theorem dX0_layOut_138 : decode cX0_layOut 138 = .ok (.iload_n 3, 1) := by decide +kernel
theorem dX0_layOut_139 : decode cX0_layOut 139 = .ok (.iconst 0, 1) := by decide +kernel
theorem dX0_layOut_140 : decode cX0_layOut 140 = .ok (.invokevirtual 67, 3) := by decide +kernel
theorem dX0_layOut_143 : decode cX0_layOut 143 = .ok (.isub, 1) := by decide +kernel
theorem dX0_layOut_144 : decode cX0_layOut 144 = .ok (.iastore, 1) := by decide +kernel
theorem dX0_layOut_145 : decode cX0_layOut 145 = .ok (.aload_n 0, 1) := by decide +kernel
theorem dX0_layOut_146 : decode cX0_layOut 146 = .ok (.getfield 19, 3) := by decide +kernel
theorem dX0_layOut_149 : decode cX0_layOut 149 = .ok (.iload_n 3, 1) := by decide +kernel
theorem dX0_layOut_150 : decode cX0_layOut 150 = .ok (.aload_n 1, 1) := by decide +kernel
theorem dX0_layOut_151 : decode cX0_layOut 151 = .ok (.iload_n 3, 1) := by decide +kernel
theorem dX0_layOut_152 : decode cX0_layOut 152 = .ok (.iconst 1, 1) := by decide +kernel
theorem dX0_layOut_153 : decode cX0_layOut 153 = .ok (.invokevirtual 67, 3) := by decide +kernel
theorem dX0_layOut_156 : decode cX0_layOut 156 = .ok (.iastore, 1) := by decide +kernel
theorem dX0_layOut_157 : decode cX0_layOut 157 = .ok (.aload_n 0, 1) := by decide +kernel
theorem dX0_layOut_158 : decode cX0_layOut 158 = .ok (.getfield 22, 3) := by decide +kernel
theorem dX0_layOut_161 : decode cX0_layOut 161 = .ok (.iload_n 3, 1) := by decide +kernel
theorem dX0_layOut_162 : decode cX0_layOut 162 = .ok (.aload_n 1, 1) := by decide +kernel
theorem dX0_layOut_163 : decode cX0_layOut 163 = .ok (.iload_n 3, 1) := by decide +kernel
theorem dX0_layOut_164 : decode cX0_layOut 164 = .ok (.iconst 2, 1) := by decide +kernel
theorem dX0_layOut_165 : decode cX0_layOut 165 = .ok (.invokevirtual 67, 3) := by decide +kernel
theorem dX0_layOut_168 : decode cX0_layOut 168 = .ok (.iastore, 1) := by decide +kernel
theorem dX0_layOut_169 : decode cX0_layOut 169 = .ok (.aload_n 0, 1) := by decide +kernel
theorem dX0_layOut_170 : decode cX0_layOut 170 = .ok (.getfield 25, 3) := by decide +kernel
theorem dX0_layOut_173 : decode cX0_layOut 173 = .ok (.iload_n 3, 1) := by decide +kernel
theorem dX0_layOut_174 : decode cX0_layOut 174 = .ok (.aload_n 1, 1) := by decide +kernel
theorem dX0_layOut_175 : decode cX0_layOut 175 = .ok (.iload_n 3, 1) := by decide +kernel
theorem dX0_layOut_176 : decode cX0_layOut 176 = .ok (.iconst 3, 1) := by decide +kernel
theorem dX0_layOut_177 : decode cX0_layOut 177 = .ok (.invokevirtual 67, 3) := by decide +kernel
theorem dX0_layOut_180 : decode cX0_layOut 180 = .ok (.iastore, 1) := by decide +kernel
theorem dX0_layOut_181 : decode cX0_layOut 181 = .ok (.aload_n 0, 1) := by decide +kernel
theorem dX0_layOut_182 : decode cX0_layOut 182 = .ok (.getfield 28, 3) := by decide +kernel
theorem dX0_layOut_185 : decode cX0_layOut 185 = .ok (.iload_n 3, 1) := by decide +kernel
theorem dX0_layOut_186 : decode cX0_layOut 186 = .ok (.aload_n 1, 1) := by decide +kernel
theorem dX0_layOut_187 : decode cX0_layOut 187 = .ok (.iload_n 3, 1) := by decide +kernel
theorem dX0_layOut_188 : decode cX0_layOut 188 = .ok (.iconst 4, 1) := by decide +kernel
theorem dX0_layOut_189 : decode cX0_layOut 189 = .ok (.invokevirtual 67, 3) := by decide +kernel
theorem dX0_layOut_192 : decode cX0_layOut 192 = .ok (.iastore, 1) := by decide +kernel
theorem dX0_layOut_193 : decode cX0_layOut 193 = .ok (.aload_n 0, 1) := by decide +kernel
theorem dX0_layOut_194 : decode cX0_layOut 194 = .ok (.iload_n 3, 1) := by decide +kernel
theorem dX0_layOut_195 : decode cX0_layOut 195 = .ok (.invokevirtual 71, 3) := by decide +kernel
theorem dX0_layOut_198 : decode cX0_layOut 198 = .ok (.iinc 3 1, 3) := by decide +kernel
theorem dX0_layOut_201 : decode cX0_layOut 201 = .ok (.goto (-78), 3) := by decide +kernel
theorem dX0_layOut_204 : decode cX0_layOut 204 = .ok (.iconst 0, 1) := by decide +kernel
theorem dX0_layOut_205 : decode cX0_layOut 205 = .ok (.istore_n 3, 1) := by decide +kernel
theorem dX0_layOut_206 : decode cX0_layOut 206 = .ok (.iload_n 3, 1) := by decide +kernel
theorem dX0_layOut_207 : decode cX0_layOut 207 = .ok (.aload_n 0, 1) := by decide +kernel
theorem dX0_layOut_208 : decode cX0_layOut 208 = .ok (.getfield 9, 3) := by decide +kernel
theorem dX0_layOut_211 : decode cX0_layOut 211 = .ok (.if_icmp .ge 31, 3) := by decide +kernel
theorem dX0_layOut_214 : decode cX0_layOut 214 = .ok (.aload_n 0, 1) := by decide +kernel
theorem dX0_layOut_215 : decode cX0_layOut 215 = .ok (.getfield 34, 3) := by decide +kernel
theorem dX0_layOut_218 : decode cX0_layOut 218 = .ok (.iload_n 3, 1) := by decide +kernel
theorem dX0_layOut_219 : decode cX0_layOut 219 = .ok (.aload_n 0, 1) := by decide +kernel
theorem dX0_layOut_220 : decode cX0_layOut 220 = .ok (.iload_n 3, 1) := by decide +kernel
theorem dX0_layOut_221 : decode cX0_layOut 221 = .ok (.invokevirtual 75, 3) := by decide +kernel
theorem dX0_layOut_224 : decode cX0_layOut 224 = .ok (.iastore, 1) := by decide +kernel
theorem dX0_layOut_225 : decode cX0_layOut 225 = .ok (.aload_n 0, 1) := by decide +kernel
theorem dX0_layOut_226 : decode cX0_layOut 226 = .ok (.getfield 37, 3) := by decide +kernel
theorem dX0_layOut_229 : decode cX0_layOut 229 = .ok (.iload_n 3, 1) := by decide +kernel
theorem dX0_layOut_230 : decode cX0_layOut 230 = .ok (.aload_n 0, 1) := by decide +kernel
theorem dX0_layOut_231 : decode cX0_layOut 231 = .ok (.iload_n 3, 1) := by decide +kernel
theorem dX0_layOut_232 : decode cX0_layOut 232 = .ok (.invokevirtual 79, 3) := by decide +kernel
theorem dX0_layOut_235 : decode cX0_layOut 235 = .ok (.iastore, 1) := by decide +kernel
theorem dX0_layOut_236 : decode cX0_layOut 236 = .ok (.iinc 3 1, 3) := by decide +kernel
theorem dX0_layOut_239 : decode cX0_layOut 239 = .ok (.goto (-33), 3) := by decide +kernel
theorem dX0_layOut_242 : decode cX0_layOut 242 = .ok (.return_, 1) := by decide +kernel
theorem dX0_layLaw_0 : decode cX0_layLaw 0 = .ok (.aload_n 0, 1) := by decide +kernel
theorem dX0_layLaw_1 : decode cX0_layLaw 1 = .ok (.getfield 15, 3) := by decide +kernel
theorem dX0_layLaw_4 : decode cX0_layLaw 4 = .ok (.iload_n 1, 1) := by decide +kernel
theorem dX0_layLaw_5 : decode cX0_layLaw 5 = .ok (.iaload, 1) := by decide +kernel
theorem dX0_layLaw_6 : decode cX0_layLaw 6 = .ok (.iconst 1, 1) := by decide +kernel
theorem dX0_layLaw_7 : decode cX0_layLaw 7 = .ok (.if_icmp .ne 10, 3) := by decide +kernel
theorem dX0_layLaw_10 : decode cX0_layLaw 10 = .ok (.aload_n 0, 1) := by decide +kernel
theorem dX0_layLaw_11 : decode cX0_layLaw 11 = .ok (.getfield 40, 3) := by decide +kernel
theorem dX0_layLaw_14 : decode cX0_layLaw 14 = .ok (.goto 7, 3) := by decide +kernel
theorem dX0_layLaw_17 : decode cX0_layLaw 17 = .ok (.aload_n 0, 1) := by decide +kernel
theorem dX0_layLaw_18 : decode cX0_layLaw 18 = .ok (.getfield 43, 3) := by decide +kernel
theorem dX0_layLaw_21 : decode cX0_layLaw 21 = .ok (.astore_n 2, 1) := by decide +kernel
theorem dX0_layLaw_22 : decode cX0_layLaw 22 = .ok (.iconst 1, 1) := by decide +kernel
theorem dX0_layLaw_23 : decode cX0_layLaw 23 = .ok (.iload_n 1, 1) := by decide +kernel
theorem dX0_layLaw_24 : decode cX0_layLaw 24 = .ok (.ishl, 1) := by decide +kernel
theorem dX0_layLaw_25 : decode cX0_layLaw 25 = .ok (.istore_n 3, 1) := by decide +kernel
theorem dX0_layLaw_26 : decode cX0_layLaw 26 = .ok (.aload_n 0, 1) := by decide +kernel
theorem dX0_layLaw_27 : decode cX0_layLaw 27 = .ok (.getfield 22, 3) := by decide +kernel
theorem dX0_layLaw_30 : decode cX0_layLaw 30 = .ok (.iload_n 1, 1) := by decide +kernel
theorem dX0_layLaw_31 : decode cX0_layLaw 31 = .ok (.iaload, 1) := by decide +kernel
theorem dX0_layLaw_32 : decode cX0_layLaw 32 = .ok (.istore 4, 2) := by decide +kernel
theorem dX0_layLaw_34 : decode cX0_layLaw 34 = .ok (.aload_n 0, 1) := by decide +kernel
theorem dX0_layLaw_35 : decode cX0_layLaw 35 = .ok (.getfield 31, 3) := by decide +kernel
theorem dX0_layLaw_38 : decode cX0_layLaw 38 = .ok (.iload_n 1, 1) := by decide +kernel
theorem dX0_layLaw_39 : decode cX0_layLaw 39 = .ok (.iconst 0, 1) := by decide +kernel
theorem dX0_layLaw_40 : decode cX0_layLaw 40 = .ok (.iastore, 1) := by decide +kernel
theorem dX0_layLaw_41 : decode cX0_layLaw 41 = .ok (.iconst 0, 1) := by decide +kernel
theorem dX0_layLaw_42 : decode cX0_layLaw 42 = .ok (.istore 5, 2) := by decide +kernel
theorem dX0_layLaw_44 : decode cX0_layLaw 44 = .ok (.iload 5, 2) := by decide +kernel
theorem dX0_layLaw_46 : decode cX0_layLaw 46 = .ok (.bipush 24, 2) := by decide +kernel
theorem dX0_layLaw_48 : decode cX0_layLaw 48 = .ok (.if_icmp .ge 82, 3) := by decide +kernel
theorem dX0_layLaw_51 : decode cX0_layLaw 51 = .ok (.aload_n 0, 1) := by decide +kernel
theorem dX0_layLaw_52 : decode cX0_layLaw 52 = .ok (.getfield 31, 3) := by decide +kernel
theorem dX0_layLaw_55 : decode cX0_layLaw 55 = .ok (.iload_n 1, 1) := by decide +kernel
theorem dX0_layLaw_56 : decode cX0_layLaw 56 = .ok (.dup2, 1) := by decide +kernel
theorem dX0_layLaw_57 : decode cX0_layLaw 57 = .ok (.iaload, 1) := by decide +kernel
theorem dX0_layLaw_58 : decode cX0_layLaw 58 = .ok (.iconst 1, 1) := by decide +kernel
theorem dX0_layLaw_59 : decode cX0_layLaw 59 = .ok (.iload 4, 2) := by decide +kernel
theorem dX0_layLaw_61 : decode cX0_layLaw 61 = .ok (.ishl, 1) := by decide +kernel
theorem dX0_layLaw_62 : decode cX0_layLaw 62 = .ok (.ior, 1) := by decide +kernel
theorem dX0_layLaw_63 : decode cX0_layLaw 63 = .ok (.iastore, 1) := by decide +kernel
theorem dX0_layLaw_64 : decode cX0_layLaw 64 = .ok (.aload_n 0, 1) := by decide +kernel
theorem dX0_layLaw_65 : decode cX0_layLaw 65 = .ok (.getfield 49, 3) := by decide +kernel
theorem dX0_layLaw_68 : decode cX0_layLaw 68 = .ok (.iload 4, 2) := by decide +kernel
theorem dX0_layLaw_70 : decode cX0_layLaw 70 = .ok (.dup2, 1) := by decide +kernel
theorem dX0_layLaw_71 : decode cX0_layLaw 71 = .ok (.iaload, 1) := by decide +kernel
theorem dX0_layLaw_72 : decode cX0_layLaw 72 = .ok (.iload_n 3, 1) := by decide +kernel
theorem dX0_layLaw_73 : decode cX0_layLaw 73 = .ok (.ior, 1) := by decide +kernel
theorem dX0_layLaw_74 : decode cX0_layLaw 74 = .ok (.iastore, 1) := by decide +kernel
theorem dX0_layLaw_75 : decode cX0_layLaw 75 = .ok (.aload_n 2, 1) := by decide +kernel
theorem dX0_layLaw_76 : decode cX0_layLaw 76 = .ok (.iload 4, 2) := by decide +kernel
theorem dX0_layLaw_78 : decode cX0_layLaw 78 = .ok (.bipush 6, 2) := by decide +kernel
theorem dX0_layLaw_80 : decode cX0_layLaw 80 = .ok (.imul, 1) := by decide +kernel
theorem dX0_layLaw_81 : decode cX0_layLaw 81 = .ok (.aload_n 0, 1) := by decide +kernel
theorem dX0_layLaw_82 : decode cX0_layLaw 82 = .ok (.getfield 19, 3) := by decide +kernel
theorem dX0_layLaw_85 : decode cX0_layLaw 85 = .ok (.iload_n 1, 1) := by decide +kernel
theorem dX0_layLaw_86 : decode cX0_layLaw 86 = .ok (.iaload, 1) := by decide +kernel
theorem dX0_layLaw_87 : decode cX0_layLaw 87 = .ok (.iadd, 1) := by decide +kernel
theorem dX0_layLaw_88 : decode cX0_layLaw 88 = .ok (.dup2, 1) := by decide +kernel
theorem dX0_layLaw_89 : decode cX0_layLaw 89 = .ok (.iaload, 1) := by decide +kernel
theorem dX0_layLaw_90 : decode cX0_layLaw 90 = .ok (.iload_n 3, 1) := by decide +kernel
theorem dX0_layLaw_91 : decode cX0_layLaw 91 = .ok (.ior, 1) := by decide +kernel
theorem dX0_layLaw_92 : decode cX0_layLaw 92 = .ok (.iastore, 1) := by decide +kernel
theorem dX0_layLaw_93 : decode cX0_layLaw 93 = .ok (.iload 4, 2) := by decide +kernel
theorem dX0_layLaw_95 : decode cX0_layLaw 95 = .ok (.aload_n 0, 1) := by decide +kernel
theorem dX0_layLaw_96 : decode cX0_layLaw 96 = .ok (.getfield 25, 3) := by decide +kernel
theorem dX0_layLaw_99 : decode cX0_layLaw 99 = .ok (.iload_n 1, 1) := by decide +kernel
theorem dX0_layLaw_100 : decode cX0_layLaw 100 = .ok (.iaload, 1) := by decide +kernel
theorem dX0_layLaw_101 : decode cX0_layLaw 101 = .ok (.if_icmp .ne 6, 3) := by decide +kernel
theorem dX0_layLaw_104 : decode cX0_layLaw 104 = .ok (.goto 26, 3) := by decide +kernel
theorem dX0_layLaw_107 : decode cX0_layLaw 107 = .ok (.iload 4, 2) := by decide +kernel
theorem dX0_layLaw_109 : decode cX0_layLaw 109 = .ok (.bipush 23, 2) := by decide +kernel
theorem dX0_layLaw_111 : decode cX0_layLaw 111 = .ok (.if_icmp .ne 7, 3) := by decide +kernel
theorem dX0_layLaw_114 : decode cX0_layLaw 114 = .ok (.iconst 0, 1) := by decide +kernel
theorem dX0_layLaw_115 : decode cX0_layLaw 115 = .ok (.goto 7, 3) := by decide +kernel
theorem dX0_layLaw_118 : decode cX0_layLaw 118 = .ok (.iload 4, 2) := by decide +kernel
theorem dX0_layLaw_120 : decode cX0_layLaw 120 = .ok (.iconst 1, 1) := by decide +kernel
theorem dX0_layLaw_121 : decode cX0_layLaw 121 = .ok (.iadd, 1) := by decide +kernel
theorem dX0_layLaw_122 : decode cX0_layLaw 122 = .ok (.istore 4, 2) := by decide +kernel
theorem dX0_layLaw_124 : decode cX0_layLaw 124 = .ok (.iinc 5 1, 3) := by decide +kernel
theorem dX0_layLaw_127 : decode cX0_layLaw 127 = .ok (.goto (-83), 3) := by decide +kernel
theorem dX0_layLaw_130 : decode cX0_layLaw 130 = .ok (.return_, 1) := by decide +kernel
theorem dX0_chainOf_0 : decode cX0_chainOf 0 = .ok (.iconst 0, 1) := by decide +kernel
theorem dX0_chainOf_1 : decode cX0_chainOf 1 = .ok (.istore_n 2, 1) := by decide +kernel
theorem dX0_chainOf_2 : decode cX0_chainOf 2 = .ok (.iload_n 1, 1) := by decide +kernel
theorem dX0_chainOf_3 : decode cX0_chainOf 3 = .ok (.istore_n 3, 1) := by decide +kernel
theorem dX0_chainOf_4 : decode cX0_chainOf 4 = .ok (.iconst 0, 1) := by decide +kernel
theorem dX0_chainOf_5 : decode cX0_chainOf 5 = .ok (.istore 4, 2) := by decide +kernel
theorem dX0_chainOf_7 : decode cX0_chainOf 7 = .ok (.iload 4, 2) := by decide +kernel
theorem dX0_chainOf_9 : decode cX0_chainOf 9 = .ok (.bipush 12, 2) := by decide +kernel
theorem dX0_chainOf_11 : decode cX0_chainOf 11 = .ok (.if_icmp .ge 46, 3) := by decide +kernel
theorem dX0_chainOf_14 : decode cX0_chainOf 14 = .ok (.iload_n 2, 1) := by decide +kernel
theorem dX0_chainOf_15 : decode cX0_chainOf 15 = .ok (.iconst 1, 1) := by decide +kernel
theorem dX0_chainOf_16 : decode cX0_chainOf 16 = .ok (.iload_n 3, 1) := by decide +kernel
theorem dX0_chainOf_17 : decode cX0_chainOf 17 = .ok (.ishl, 1) := by decide +kernel
theorem dX0_chainOf_18 : decode cX0_chainOf 18 = .ok (.ior, 1) := by decide +kernel
theorem dX0_chainOf_19 : decode cX0_chainOf 19 = .ok (.istore_n 2, 1) := by decide +kernel
theorem dX0_chainOf_20 : decode cX0_chainOf 20 = .ok (.aload_n 0, 1) := by decide +kernel
theorem dX0_chainOf_21 : decode cX0_chainOf 21 = .ok (.getfield 28, 3) := by decide +kernel
theorem dX0_chainOf_24 : decode cX0_chainOf 24 = .ok (.iload_n 3, 1) := by decide +kernel
theorem dX0_chainOf_25 : decode cX0_chainOf 25 = .ok (.iaload, 1) := by decide +kernel
theorem dX0_chainOf_26 : decode cX0_chainOf 26 = .ok (.iconst (-1), 1) := by decide +kernel
theorem dX0_chainOf_27 : decode cX0_chainOf 27 = .ok (.if_icmp .ne 5, 3) := by decide +kernel
theorem dX0_chainOf_30 : decode cX0_chainOf 30 = .ok (.iload_n 2, 1) := by decide +kernel
theorem dX0_chainOf_31 : decode cX0_chainOf 31 = .ok (.ireturn, 1) := by decide +kernel
theorem dX0_chainOf_32 : decode cX0_chainOf 32 = .ok (.aload_n 0, 1) := by decide +kernel
theorem dX0_chainOf_33 : decode cX0_chainOf 33 = .ok (.getfield 28, 3) := by decide +kernel
theorem dX0_chainOf_36 : decode cX0_chainOf 36 = .ok (.iload_n 3, 1) := by decide +kernel
theorem dX0_chainOf_37 : decode cX0_chainOf 37 = .ok (.iaload, 1) := by decide +kernel
theorem dX0_chainOf_38 : decode cX0_chainOf 38 = .ok (.istore_n 3, 1) := by decide +kernel
theorem dX0_chainOf_39 : decode cX0_chainOf 39 = .ok (.iload_n 3, 1) := by decide +kernel
theorem dX0_chainOf_40 : decode cX0_chainOf 40 = .ok (.aload_n 0, 1) := by decide +kernel
theorem dX0_chainOf_41 : decode cX0_chainOf 41 = .ok (.getfield 9, 3) := by decide +kernel
theorem dX0_chainOf_44 : decode cX0_chainOf 44 = .ok (.if_icmp .lt 7, 3) := by decide +kernel
theorem dX0_chainOf_47 : decode cX0_chainOf 47 = .ok (.sipush 4096, 3) := by decide +kernel
theorem dX0_chainOf_50 : decode cX0_chainOf 50 = .ok (.ireturn, 1) := by decide +kernel
theorem dX0_chainOf_51 : decode cX0_chainOf 51 = .ok (.iinc 4 1, 3) := by decide +kernel
theorem dX0_chainOf_54 : decode cX0_chainOf 54 = .ok (.goto (-47), 3) := by decide +kernel
theorem dX0_chainOf_57 : decode cX0_chainOf 57 = .ok (.sipush 4096, 3) := by decide +kernel
theorem dX0_chainOf_60 : decode cX0_chainOf 60 = .ok (.ireturn, 1) := by decide +kernel
theorem dX0_rivalsOf_0 : decode cX0_rivalsOf 0 = .ok (.iconst 0, 1) := by decide +kernel
theorem dX0_rivalsOf_1 : decode cX0_rivalsOf 1 = .ok (.istore_n 2, 1) := by decide +kernel
theorem dX0_rivalsOf_2 : decode cX0_rivalsOf 2 = .ok (.iconst 0, 1) := by decide +kernel
theorem dX0_rivalsOf_3 : decode cX0_rivalsOf 3 = .ok (.istore_n 3, 1) := by decide +kernel
theorem dX0_rivalsOf_4 : decode cX0_rivalsOf 4 = .ok (.iload_n 3, 1) := by decide +kernel
theorem dX0_rivalsOf_5 : decode cX0_rivalsOf 5 = .ok (.aload_n 0, 1) := by decide +kernel
theorem dX0_rivalsOf_6 : decode cX0_rivalsOf 6 = .ok (.getfield 9, 3) := by decide +kernel
theorem dX0_rivalsOf_9 : decode cX0_rivalsOf 9 = .ok (.if_icmp .ge 102, 3) := by decide +kernel
theorem dX0_rivalsOf_12 : decode cX0_rivalsOf 12 = .ok (.aload_n 0, 1) := by decide +kernel
theorem dX0_rivalsOf_13 : decode cX0_rivalsOf 13 = .ok (.getfield 31, 3) := by decide +kernel
theorem dX0_rivalsOf_16 : decode cX0_rivalsOf 16 = .ok (.iload_n 1, 1) := by decide +kernel
theorem dX0_rivalsOf_17 : decode cX0_rivalsOf 17 = .ok (.iaload, 1) := by decide +kernel
theorem dX0_rivalsOf_18 : decode cX0_rivalsOf 18 = .ok (.aload_n 0, 1) := by decide +kernel
theorem dX0_rivalsOf_19 : decode cX0_rivalsOf 19 = .ok (.getfield 31, 3) := by decide +kernel
theorem dX0_rivalsOf_22 : decode cX0_rivalsOf 22 = .ok (.iload_n 3, 1) := by decide +kernel
theorem dX0_rivalsOf_23 : decode cX0_rivalsOf 23 = .ok (.iaload, 1) := by decide +kernel
theorem dX0_rivalsOf_24 : decode cX0_rivalsOf 24 = .ok (.iand, 1) := by decide +kernel
theorem dX0_rivalsOf_25 : decode cX0_rivalsOf 25 = .ok (.ifCond .eq 7, 3) := by decide +kernel
theorem dX0_rivalsOf_28 : decode cX0_rivalsOf 28 = .ok (.iconst 1, 1) := by decide +kernel
theorem dX0_rivalsOf_29 : decode cX0_rivalsOf 29 = .ok (.goto 4, 3) := by decide +kernel
theorem dX0_rivalsOf_32 : decode cX0_rivalsOf 32 = .ok (.iconst 0, 1) := by decide +kernel
theorem dX0_rivalsOf_33 : decode cX0_rivalsOf 33 = .ok (.istore 4, 2) := by decide +kernel
theorem dX0_rivalsOf_35 : decode cX0_rivalsOf 35 = .ok (.aload_n 0, 1) := by decide +kernel
theorem dX0_rivalsOf_36 : decode cX0_rivalsOf 36 = .ok (.getfield 19, 3) := by decide +kernel
theorem dX0_rivalsOf_39 : decode cX0_rivalsOf 39 = .ok (.iload_n 1, 1) := by decide +kernel
theorem dX0_rivalsOf_40 : decode cX0_rivalsOf 40 = .ok (.iaload, 1) := by decide +kernel
theorem dX0_rivalsOf_41 : decode cX0_rivalsOf 41 = .ok (.aload_n 0, 1) := by decide +kernel
theorem dX0_rivalsOf_42 : decode cX0_rivalsOf 42 = .ok (.getfield 19, 3) := by decide +kernel
theorem dX0_rivalsOf_45 : decode cX0_rivalsOf 45 = .ok (.iload_n 3, 1) := by decide +kernel
theorem dX0_rivalsOf_46 : decode cX0_rivalsOf 46 = .ok (.iaload, 1) := by decide +kernel
theorem dX0_rivalsOf_47 : decode cX0_rivalsOf 47 = .ok (.if_icmp .ne 7, 3) := by decide +kernel
theorem dX0_rivalsOf_50 : decode cX0_rivalsOf 50 = .ok (.iconst 1, 1) := by decide +kernel
theorem dX0_rivalsOf_51 : decode cX0_rivalsOf 51 = .ok (.goto 4, 3) := by decide +kernel
theorem dX0_rivalsOf_54 : decode cX0_rivalsOf 54 = .ok (.iconst 0, 1) := by decide +kernel
theorem dX0_rivalsOf_55 : decode cX0_rivalsOf 55 = .ok (.istore 5, 2) := by decide +kernel
theorem dX0_rivalsOf_57 : decode cX0_rivalsOf 57 = .ok (.aload_n 0, 1) := by decide +kernel
theorem dX0_rivalsOf_58 : decode cX0_rivalsOf 58 = .ok (.getfield 15, 3) := by decide +kernel
theorem dX0_rivalsOf_61 : decode cX0_rivalsOf 61 = .ok (.iload_n 1, 1) := by decide +kernel
theorem dX0_rivalsOf_62 : decode cX0_rivalsOf 62 = .ok (.iaload, 1) := by decide +kernel
theorem dX0_rivalsOf_63 : decode cX0_rivalsOf 63 = .ok (.aload_n 0, 1) := by decide +kernel
theorem dX0_rivalsOf_64 : decode cX0_rivalsOf 64 = .ok (.getfield 15, 3) := by decide +kernel
theorem dX0_rivalsOf_67 : decode cX0_rivalsOf 67 = .ok (.iload_n 3, 1) := by decide +kernel
theorem dX0_rivalsOf_68 : decode cX0_rivalsOf 68 = .ok (.iaload, 1) := by decide +kernel
theorem dX0_rivalsOf_69 : decode cX0_rivalsOf 69 = .ok (.iadd, 1) := by decide +kernel
theorem dX0_rivalsOf_70 : decode cX0_rivalsOf 70 = .ok (.istore 6, 2) := by decide +kernel
theorem dX0_rivalsOf_72 : decode cX0_rivalsOf 72 = .ok (.iload 4, 2) := by decide +kernel
theorem dX0_rivalsOf_74 : decode cX0_rivalsOf 74 = .ok (.ifCond .eq 31, 3) := by decide +kernel
theorem dX0_rivalsOf_77 : decode cX0_rivalsOf 77 = .ok (.iload 6, 2) := by decide +kernel
theorem dX0_rivalsOf_79 : decode cX0_rivalsOf 79 = .ok (.iconst 2, 1) := by decide +kernel
theorem dX0_rivalsOf_80 : decode cX0_rivalsOf 80 = .ok (.if_icmp .ne 8, 3) := by decide +kernel
theorem dX0_rivalsOf_83 : decode cX0_rivalsOf 83 = .ok (.iload 5, 2) := by decide +kernel
theorem dX0_rivalsOf_85 : decode cX0_rivalsOf 85 = .ok (.ifCond .eq 14, 3) := by decide +kernel
theorem dX0_rivalsOf_88 : decode cX0_rivalsOf 88 = .ok (.iload 6, 2) := by decide +kernel
theorem dX0_rivalsOf_90 : decode cX0_rivalsOf 90 = .ok (.iconst 1, 1) := by decide +kernel
theorem dX0_rivalsOf_91 : decode cX0_rivalsOf 91 = .ok (.if_icmp .ne 14, 3) := by decide +kernel
theorem dX0_rivalsOf_94 : decode cX0_rivalsOf 94 = .ok (.iload 5, 2) := by decide +kernel
theorem dX0_rivalsOf_96 : decode cX0_rivalsOf 96 = .ok (.ifCond .eq 9, 3) := by decide +kernel
theorem dX0_rivalsOf_99 : decode cX0_rivalsOf 99 = .ok (.iload_n 2, 1) := by decide +kernel
theorem dX0_rivalsOf_100 : decode cX0_rivalsOf 100 = .ok (.iconst 1, 1) := by decide +kernel
theorem dX0_rivalsOf_101 : decode cX0_rivalsOf 101 = .ok (.iload_n 3, 1) := by decide +kernel
theorem dX0_rivalsOf_102 : decode cX0_rivalsOf 102 = .ok (.ishl, 1) := by decide +kernel
theorem dX0_rivalsOf_103 : decode cX0_rivalsOf 103 = .ok (.ior, 1) := by decide +kernel
theorem dX0_rivalsOf_104 : decode cX0_rivalsOf 104 = .ok (.istore_n 2, 1) := by decide +kernel
theorem dX0_rivalsOf_105 : decode cX0_rivalsOf 105 = .ok (.iinc 3 1, 3) := by decide +kernel
theorem dX0_rivalsOf_108 : decode cX0_rivalsOf 108 = .ok (.goto (-104), 3) := by decide +kernel
theorem dX0_rivalsOf_111 : decode cX0_rivalsOf 111 = .ok (.iload_n 2, 1) := by decide +kernel
theorem dX0_rivalsOf_112 : decode cX0_rivalsOf 112 = .ok (.ireturn, 1) := by decide +kernel
theorem dX0_lawPart_0 : decode cX0_lawPart 0 = .ok (.iload_n 2, 1) := by decide +kernel
theorem dX0_lawPart_1 : decode cX0_lawPart 1 = .ok (.tableswitch 59 0 3 #[31, 38, 45, 52], 31) := by decide +kernel
theorem dX0_lawPart_32 : decode cX0_lawPart 32 = .ok (.aload_n 0, 1) := by decide +kernel
theorem dX0_lawPart_33 : decode cX0_lawPart 33 = .ok (.getfield 15, 3) := by decide +kernel
theorem dX0_lawPart_36 : decode cX0_lawPart 36 = .ok (.iload_n 1, 1) := by decide +kernel
theorem dX0_lawPart_37 : decode cX0_lawPart 37 = .ok (.iaload, 1) := by decide +kernel
theorem dX0_lawPart_38 : decode cX0_lawPart 38 = .ok (.ireturn, 1) := by decide +kernel
theorem dX0_lawPart_39 : decode cX0_lawPart 39 = .ok (.aload_n 0, 1) := by decide +kernel
theorem dX0_lawPart_40 : decode cX0_lawPart 40 = .ok (.getfield 19, 3) := by decide +kernel
theorem dX0_lawPart_43 : decode cX0_lawPart 43 = .ok (.iload_n 1, 1) := by decide +kernel
theorem dX0_lawPart_44 : decode cX0_lawPart 44 = .ok (.iaload, 1) := by decide +kernel
theorem dX0_lawPart_45 : decode cX0_lawPart 45 = .ok (.ireturn, 1) := by decide +kernel
theorem dX0_lawPart_46 : decode cX0_lawPart 46 = .ok (.aload_n 0, 1) := by decide +kernel
theorem dX0_lawPart_47 : decode cX0_lawPart 47 = .ok (.getfield 22, 3) := by decide +kernel
theorem dX0_lawPart_50 : decode cX0_lawPart 50 = .ok (.iload_n 1, 1) := by decide +kernel
theorem dX0_lawPart_51 : decode cX0_lawPart 51 = .ok (.iaload, 1) := by decide +kernel
theorem dX0_lawPart_52 : decode cX0_lawPart 52 = .ok (.ireturn, 1) := by decide +kernel
theorem dX0_lawPart_53 : decode cX0_lawPart 53 = .ok (.aload_n 0, 1) := by decide +kernel
theorem dX0_lawPart_54 : decode cX0_lawPart 54 = .ok (.getfield 25, 3) := by decide +kernel
theorem dX0_lawPart_57 : decode cX0_lawPart 57 = .ok (.iload_n 1, 1) := by decide +kernel
theorem dX0_lawPart_58 : decode cX0_lawPart 58 = .ok (.iaload, 1) := by decide +kernel
theorem dX0_lawPart_59 : decode cX0_lawPart 59 = .ok (.ireturn, 1) := by decide +kernel
theorem dX0_lawPart_60 : decode cX0_lawPart 60 = .ok (.aload_n 0, 1) := by decide +kernel
theorem dX0_lawPart_61 : decode cX0_lawPart 61 = .ok (.getfield 28, 3) := by decide +kernel
theorem dX0_lawPart_64 : decode cX0_lawPart 64 = .ok (.iload_n 1, 1) := by decide +kernel
theorem dX0_lawPart_65 : decode cX0_lawPart 65 = .ok (.iaload, 1) := by decide +kernel
theorem dX0_lawPart_66 : decode cX0_lawPart 66 = .ok (.ireturn, 1) := by decide +kernel
theorem dX0_all_0 : decode cX0_all 0 = .ok (.iconst 1, 1) := by decide +kernel
theorem dX0_all_1 : decode cX0_all 1 = .ok (.aload_n 0, 1) := by decide +kernel
theorem dX0_all_2 : decode cX0_all 2 = .ok (.getfield 9, 3) := by decide +kernel
theorem dX0_all_5 : decode cX0_all 5 = .ok (.ishl, 1) := by decide +kernel
theorem dX0_all_6 : decode cX0_all 6 = .ok (.iconst 1, 1) := by decide +kernel
theorem dX0_all_7 : decode cX0_all 7 = .ok (.isub, 1) := by decide +kernel
theorem dX0_all_8 : decode cX0_all 8 = .ok (.ireturn, 1) := by decide +kernel
theorem dX0_standing_0 : decode cX0_standing 0 = .ok (.iconst 0, 1) := by decide +kernel
theorem dX0_standing_1 : decode cX0_standing 1 = .ok (.istore_n 2, 1) := by decide +kernel
theorem dX0_standing_2 : decode cX0_standing 2 = .ok (.iconst 0, 1) := by decide +kernel
theorem dX0_standing_3 : decode cX0_standing 3 = .ok (.istore_n 3, 1) := by decide +kernel
theorem dX0_standing_4 : decode cX0_standing 4 = .ok (.iload_n 3, 1) := by decide +kernel
theorem dX0_standing_5 : decode cX0_standing 5 = .ok (.aload_n 0, 1) := by decide +kernel
theorem dX0_standing_6 : decode cX0_standing 6 = .ok (.getfield 9, 3) := by decide +kernel
theorem dX0_standing_9 : decode cX0_standing 9 = .ok (.if_icmp .ge 28, 3) := by decide +kernel
theorem dX0_standing_12 : decode cX0_standing 12 = .ok (.aload_n 0, 1) := by decide +kernel
theorem dX0_standing_13 : decode cX0_standing 13 = .ok (.getfield 34, 3) := by decide +kernel
theorem dX0_standing_16 : decode cX0_standing 16 = .ok (.iload_n 3, 1) := by decide +kernel
theorem dX0_standing_17 : decode cX0_standing 17 = .ok (.iaload, 1) := by decide +kernel
theorem dX0_standing_18 : decode cX0_standing 18 = .ok (.iload_n 1, 1) := by decide +kernel
theorem dX0_standing_19 : decode cX0_standing 19 = .ok (.iconst (-1), 1) := by decide +kernel
theorem dX0_standing_20 : decode cX0_standing 20 = .ok (.ixor, 1) := by decide +kernel
theorem dX0_standing_21 : decode cX0_standing 21 = .ok (.iand, 1) := by decide +kernel
theorem dX0_standing_22 : decode cX0_standing 22 = .ok (.ifCond .ne 9, 3) := by decide +kernel
theorem dX0_standing_25 : decode cX0_standing 25 = .ok (.iload_n 2, 1) := by decide +kernel
theorem dX0_standing_26 : decode cX0_standing 26 = .ok (.iconst 1, 1) := by decide +kernel
theorem dX0_standing_27 : decode cX0_standing 27 = .ok (.iload_n 3, 1) := by decide +kernel
theorem dX0_standing_28 : decode cX0_standing 28 = .ok (.ishl, 1) := by decide +kernel
theorem dX0_standing_29 : decode cX0_standing 29 = .ok (.ior, 1) := by decide +kernel
theorem dX0_standing_30 : decode cX0_standing 30 = .ok (.istore_n 2, 1) := by decide +kernel
theorem dX0_standing_31 : decode cX0_standing 31 = .ok (.iinc 3 1, 3) := by decide +kernel
theorem dX0_standing_34 : decode cX0_standing 34 = .ok (.goto (-30), 3) := by decide +kernel
theorem dX0_standing_37 : decode cX0_standing 37 = .ok (.iload_n 2, 1) := by decide +kernel
theorem dX0_standing_38 : decode cX0_standing 38 = .ok (.ireturn, 1) := by decide +kernel
theorem dX0_deedBy_0 : decode cX0_deedBy 0 = .ok (.iconst (-1), 1) := by decide +kernel
theorem dX0_deedBy_1 : decode cX0_deedBy 1 = .ok (.istore_n 3, 1) := by decide +kernel
theorem dX0_deedBy_2 : decode cX0_deedBy 2 = .ok (.iconst (-1), 1) := by decide +kernel
theorem dX0_deedBy_3 : decode cX0_deedBy 3 = .ok (.istore 4, 2) := by decide +kernel
theorem dX0_deedBy_5 : decode cX0_deedBy 5 = .ok (.iconst 0, 1) := by decide +kernel
theorem dX0_deedBy_6 : decode cX0_deedBy 6 = .ok (.istore 5, 2) := by decide +kernel
theorem dX0_deedBy_8 : decode cX0_deedBy 8 = .ok (.iload_n 2, 1) := by decide +kernel
theorem dX0_deedBy_9 : decode cX0_deedBy 9 = .ok (.bipush 6, 2) := by decide +kernel
theorem dX0_deedBy_11 : decode cX0_deedBy 11 = .ok (.imul, 1) := by decide +kernel
theorem dX0_deedBy_12 : decode cX0_deedBy 12 = .ok (.istore 6, 2) := by decide +kernel
theorem dX0_deedBy_14 : decode cX0_deedBy 14 = .ok (.iload 6, 2) := by decide +kernel
theorem dX0_deedBy_16 : decode cX0_deedBy 16 = .ok (.istore 7, 2) := by decide +kernel
theorem dX0_deedBy_18 : decode cX0_deedBy 18 = .ok (.iload 7, 2) := by decide +kernel
theorem dX0_deedBy_20 : decode cX0_deedBy 20 = .ok (.iload 6, 2) := by decide +kernel
theorem dX0_deedBy_22 : decode cX0_deedBy 22 = .ok (.bipush 6, 2) := by decide +kernel
theorem dX0_deedBy_24 : decode cX0_deedBy 24 = .ok (.iadd, 1) := by decide +kernel
theorem dX0_deedBy_25 : decode cX0_deedBy 25 = .ok (.if_icmp .ge 95, 3) := by decide +kernel
theorem dX0_deedBy_28 : decode cX0_deedBy 28 = .ok (.iload_n 1, 1) := by decide +kernel
theorem dX0_deedBy_29 : decode cX0_deedBy 29 = .ok (.aload_n 0, 1) := by decide +kernel
theorem dX0_deedBy_30 : decode cX0_deedBy 30 = .ok (.getfield 43, 3) := by decide +kernel
theorem dX0_deedBy_33 : decode cX0_deedBy 33 = .ok (.iload 7, 2) := by decide +kernel
theorem dX0_deedBy_35 : decode cX0_deedBy 35 = .ok (.iaload, 1) := by decide +kernel
theorem dX0_deedBy_36 : decode cX0_deedBy 36 = .ok (.iand, 1) := by decide +kernel
theorem dX0_deedBy_37 : decode cX0_deedBy 37 = .ok (.ifCond .eq 7, 3) := by decide +kernel
theorem dX0_deedBy_40 : decode cX0_deedBy 40 = .ok (.iconst 1, 1) := by decide +kernel
theorem dX0_deedBy_41 : decode cX0_deedBy 41 = .ok (.goto 4, 3) := by decide +kernel
theorem dX0_deedBy_44 : decode cX0_deedBy 44 = .ok (.iconst 0, 1) := by decide +kernel
theorem dX0_deedBy_45 : decode cX0_deedBy 45 = .ok (.istore 8, 2) := by decide +kernel
theorem dX0_deedBy_47 : decode cX0_deedBy 47 = .ok (.iload_n 1, 1) := by decide +kernel
theorem dX0_deedBy_48 : decode cX0_deedBy 48 = .ok (.aload_n 0, 1) := by decide +kernel
theorem dX0_deedBy_49 : decode cX0_deedBy 49 = .ok (.getfield 40, 3) := by decide +kernel
theorem dX0_deedBy_52 : decode cX0_deedBy 52 = .ok (.iload 7, 2) := by decide +kernel
theorem dX0_deedBy_54 : decode cX0_deedBy 54 = .ok (.iaload, 1) := by decide +kernel
theorem dX0_deedBy_55 : decode cX0_deedBy 55 = .ok (.iand, 1) := by decide +kernel
theorem dX0_deedBy_56 : decode cX0_deedBy 56 = .ok (.ifCond .eq 25, 3) := by decide +kernel
theorem dX0_deedBy_59 : decode cX0_deedBy 59 = .ok (.iload 8, 2) := by decide +kernel
theorem dX0_deedBy_61 : decode cX0_deedBy 61 = .ok (.ifCond .ne 8, 3) := by decide +kernel
theorem dX0_deedBy_64 : decode cX0_deedBy 64 = .ok (.iload_n 3, 1) := by decide +kernel
theorem dX0_deedBy_65 : decode cX0_deedBy 65 = .ok (.iconst (-1), 1) := by decide +kernel
theorem dX0_deedBy_66 : decode cX0_deedBy 66 = .ok (.if_icmp .eq 6, 3) := by decide +kernel
theorem dX0_deedBy_69 : decode cX0_deedBy 69 = .ok (.bipush 6, 2) := by decide +kernel
theorem dX0_deedBy_71 : decode cX0_deedBy 71 = .ok (.ireturn, 1) := by decide +kernel
theorem dX0_deedBy_72 : decode cX0_deedBy 72 = .ok (.iload 7, 2) := by decide +kernel
theorem dX0_deedBy_74 : decode cX0_deedBy 74 = .ok (.iload 6, 2) := by decide +kernel
theorem dX0_deedBy_76 : decode cX0_deedBy 76 = .ok (.isub, 1) := by decide +kernel
theorem dX0_deedBy_77 : decode cX0_deedBy 77 = .ok (.istore_n 3, 1) := by decide +kernel
theorem dX0_deedBy_78 : decode cX0_deedBy 78 = .ok (.goto 36, 3) := by decide +kernel
theorem dX0_deedBy_81 : decode cX0_deedBy 81 = .ok (.aload_n 0, 1) := by decide +kernel
theorem dX0_deedBy_82 : decode cX0_deedBy 82 = .ok (.getfield 46, 3) := by decide +kernel
theorem dX0_deedBy_85 : decode cX0_deedBy 85 = .ok (.iload 7, 2) := by decide +kernel
theorem dX0_deedBy_87 : decode cX0_deedBy 87 = .ok (.iaload, 1) := by decide +kernel
theorem dX0_deedBy_88 : decode cX0_deedBy 88 = .ok (.iload 5, 2) := by decide +kernel
theorem dX0_deedBy_90 : decode cX0_deedBy 90 = .ok (.if_icmp .le 24, 3) := by decide +kernel
theorem dX0_deedBy_93 : decode cX0_deedBy 93 = .ok (.iload 8, 2) := by decide +kernel
theorem dX0_deedBy_95 : decode cX0_deedBy 95 = .ok (.ifCond .ne 19, 3) := by decide +kernel
theorem dX0_deedBy_98 : decode cX0_deedBy 98 = .ok (.iload 7, 2) := by decide +kernel
theorem dX0_deedBy_100 : decode cX0_deedBy 100 = .ok (.iload 6, 2) := by decide +kernel
theorem dX0_deedBy_102 : decode cX0_deedBy 102 = .ok (.isub, 1) := by decide +kernel
theorem dX0_deedBy_103 : decode cX0_deedBy 103 = .ok (.istore 4, 2) := by decide +kernel
theorem dX0_deedBy_105 : decode cX0_deedBy 105 = .ok (.aload_n 0, 1) := by decide +kernel
theorem dX0_deedBy_106 : decode cX0_deedBy 106 = .ok (.getfield 46, 3) := by decide +kernel
theorem dX0_deedBy_109 : decode cX0_deedBy 109 = .ok (.iload 7, 2) := by decide +kernel
theorem dX0_deedBy_111 : decode cX0_deedBy 111 = .ok (.iaload, 1) := by decide +kernel
theorem dX0_deedBy_112 : decode cX0_deedBy 112 = .ok (.istore 5, 2) := by decide +kernel
theorem dX0_deedBy_114 : decode cX0_deedBy 114 = .ok (.iinc 7 1, 3) := by decide +kernel
theorem dX0_deedBy_117 : decode cX0_deedBy 117 = .ok (.goto (-99), 3) := by decide +kernel
theorem dX0_deedBy_120 : decode cX0_deedBy 120 = .ok (.iload_n 3, 1) := by decide +kernel
theorem dX0_deedBy_121 : decode cX0_deedBy 121 = .ok (.iconst (-1), 1) := by decide +kernel
theorem dX0_deedBy_122 : decode cX0_deedBy 122 = .ok (.if_icmp .ne 8, 3) := by decide +kernel
theorem dX0_deedBy_125 : decode cX0_deedBy 125 = .ok (.iload 4, 2) := by decide +kernel
theorem dX0_deedBy_127 : decode cX0_deedBy 127 = .ok (.goto 4, 3) := by decide +kernel
theorem dX0_deedBy_130 : decode cX0_deedBy 130 = .ok (.iload_n 3, 1) := by decide +kernel
theorem dX0_deedBy_131 : decode cX0_deedBy 131 = .ok (.ireturn, 1) := by decide +kernel
theorem dX0_joyBy_0 : decode cX0_joyBy 0 = .ok (.iconst 0, 1) := by decide +kernel
theorem dX0_joyBy_1 : decode cX0_joyBy 1 = .ok (.istore_n 2, 1) := by decide +kernel
theorem dX0_joyBy_2 : decode cX0_joyBy 2 = .ok (.iconst 0, 1) := by decide +kernel
theorem dX0_joyBy_3 : decode cX0_joyBy 3 = .ok (.istore_n 3, 1) := by decide +kernel
theorem dX0_joyBy_4 : decode cX0_joyBy 4 = .ok (.iload_n 3, 1) := by decide +kernel
theorem dX0_joyBy_5 : decode cX0_joyBy 5 = .ok (.bipush 24, 2) := by decide +kernel
theorem dX0_joyBy_7 : decode cX0_joyBy 7 = .ok (.if_icmp .ge 54, 3) := by decide +kernel
theorem dX0_joyBy_10 : decode cX0_joyBy 10 = .ok (.aload_n 0, 1) := by decide +kernel
theorem dX0_joyBy_11 : decode cX0_joyBy 11 = .ok (.getfield 52, 3) := by decide +kernel
theorem dX0_joyBy_14 : decode cX0_joyBy 14 = .ok (.iload_n 3, 1) := by decide +kernel
theorem dX0_joyBy_15 : decode cX0_joyBy 15 = .ok (.baload, 1) := by decide +kernel
theorem dX0_joyBy_16 : decode cX0_joyBy 16 = .ok (.ifCond .eq 39, 3) := by decide +kernel
theorem dX0_joyBy_19 : decode cX0_joyBy 19 = .ok (.aload_n 0, 1) := by decide +kernel
theorem dX0_joyBy_20 : decode cX0_joyBy 20 = .ok (.iload_n 1, 1) := by decide +kernel
theorem dX0_joyBy_21 : decode cX0_joyBy 21 = .ok (.iload_n 3, 1) := by decide +kernel
theorem dX0_joyBy_22 : decode cX0_joyBy 22 = .ok (.invokevirtual 82, 3) := by decide +kernel
theorem dX0_joyBy_25 : decode cX0_joyBy 25 = .ok (.istore 4, 2) := by decide +kernel
theorem dX0_joyBy_27 : decode cX0_joyBy 27 = .ok (.iload 4, 2) := by decide +kernel
theorem dX0_joyBy_29 : decode cX0_joyBy 29 = .ok (.iconst (-1), 1) := by decide +kernel
theorem dX0_joyBy_30 : decode cX0_joyBy 30 = .ok (.if_icmp .eq 25, 3) := by decide +kernel
theorem dX0_joyBy_33 : decode cX0_joyBy 33 = .ok (.iload 4, 2) := by decide +kernel
theorem dX0_joyBy_35 : decode cX0_joyBy 35 = .ok (.bipush 6, 2) := by decide +kernel
theorem dX0_joyBy_37 : decode cX0_joyBy 37 = .ok (.if_icmp .eq 18, 3) := by decide +kernel
theorem dX0_joyBy_40 : decode cX0_joyBy 40 = .ok (.iload_n 2, 1) := by decide +kernel
theorem dX0_joyBy_41 : decode cX0_joyBy 41 = .ok (.aload_n 0, 1) := by decide +kernel
theorem dX0_joyBy_42 : decode cX0_joyBy 42 = .ok (.getfield 46, 3) := by decide +kernel
theorem dX0_joyBy_45 : decode cX0_joyBy 45 = .ok (.iload_n 3, 1) := by decide +kernel
theorem dX0_joyBy_46 : decode cX0_joyBy 46 = .ok (.bipush 6, 2) := by decide +kernel
theorem dX0_joyBy_48 : decode cX0_joyBy 48 = .ok (.imul, 1) := by decide +kernel
theorem dX0_joyBy_49 : decode cX0_joyBy 49 = .ok (.iload 4, 2) := by decide +kernel
theorem dX0_joyBy_51 : decode cX0_joyBy 51 = .ok (.iadd, 1) := by decide +kernel
theorem dX0_joyBy_52 : decode cX0_joyBy 52 = .ok (.iaload, 1) := by decide +kernel
theorem dX0_joyBy_53 : decode cX0_joyBy 53 = .ok (.iadd, 1) := by decide +kernel
theorem dX0_joyBy_54 : decode cX0_joyBy 54 = .ok (.istore_n 2, 1) := by decide +kernel
theorem dX0_joyBy_55 : decode cX0_joyBy 55 = .ok (.iinc 3 1, 3) := by decide +kernel
theorem dX0_joyBy_58 : decode cX0_joyBy 58 = .ok (.goto (-54), 3) := by decide +kernel
theorem dX0_joyBy_61 : decode cX0_joyBy 61 = .ok (.iload_n 2, 1) := by decide +kernel
theorem dX0_joyBy_62 : decode cX0_joyBy 62 = .ok (.ireturn, 1) := by decide +kernel
theorem dX0_firstClash_0 : decode cX0_firstClash 0 = .ok (.iconst 0, 1) := by decide +kernel
theorem dX0_firstClash_1 : decode cX0_firstClash 1 = .ok (.istore_n 2, 1) := by decide +kernel
theorem dX0_firstClash_2 : decode cX0_firstClash 2 = .ok (.iload_n 2, 1) := by decide +kernel
theorem dX0_firstClash_3 : decode cX0_firstClash 3 = .ok (.bipush 24, 2) := by decide +kernel
theorem dX0_firstClash_5 : decode cX0_firstClash 5 = .ok (.if_icmp .ge 22, 3) := by decide +kernel
theorem dX0_firstClash_8 : decode cX0_firstClash 8 = .ok (.aload_n 0, 1) := by decide +kernel
theorem dX0_firstClash_9 : decode cX0_firstClash 9 = .ok (.iload_n 1, 1) := by decide +kernel
theorem dX0_firstClash_10 : decode cX0_firstClash 10 = .ok (.iload_n 2, 1) := by decide +kernel
theorem dX0_firstClash_11 : decode cX0_firstClash 11 = .ok (.invokevirtual 82, 3) := by decide +kernel
theorem dX0_firstClash_14 : decode cX0_firstClash 14 = .ok (.bipush 6, 2) := by decide +kernel
theorem dX0_firstClash_16 : decode cX0_firstClash 16 = .ok (.if_icmp .ne 5, 3) := by decide +kernel
theorem dX0_firstClash_19 : decode cX0_firstClash 19 = .ok (.iload_n 2, 1) := by decide +kernel
theorem dX0_firstClash_20 : decode cX0_firstClash 20 = .ok (.ireturn, 1) := by decide +kernel
theorem dX0_firstClash_21 : decode cX0_firstClash 21 = .ok (.iinc 2 1, 3) := by decide +kernel
theorem dX0_firstClash_24 : decode cX0_firstClash 24 = .ok (.goto (-22), 3) := by decide +kernel
theorem dX0_firstClash_27 : decode cX0_firstClash 27 = .ok (.iconst (-1), 1) := by decide +kernel
theorem dX0_firstClash_28 : decode cX0_firstClash 28 = .ok (.ireturn, 1) := by decide +kernel
theorem dX0_rivalsWithin_0 : decode cX0_rivalsWithin 0 = .ok (.aload_n 0, 1) := by decide +kernel
theorem dX0_rivalsWithin_1 : decode cX0_rivalsWithin 1 = .ok (.getfield 37, 3) := by decide +kernel
theorem dX0_rivalsWithin_4 : decode cX0_rivalsWithin 4 = .ok (.iload_n 1, 1) := by decide +kernel
theorem dX0_rivalsWithin_5 : decode cX0_rivalsWithin 5 = .ok (.iaload, 1) := by decide +kernel
theorem dX0_rivalsWithin_6 : decode cX0_rivalsWithin 6 = .ok (.iload_n 2, 1) := by decide +kernel
theorem dX0_rivalsWithin_7 : decode cX0_rivalsWithin 7 = .ok (.iand, 1) := by decide +kernel
theorem dX0_rivalsWithin_8 : decode cX0_rivalsWithin 8 = .ok (.ireturn, 1) := by decide +kernel
theorem dX0_quarrelCount_0 : decode cX0_quarrelCount 0 = .ok (.iconst 0, 1) := by decide +kernel
theorem dX0_quarrelCount_1 : decode cX0_quarrelCount 1 = .ok (.istore_n 2, 1) := by decide +kernel
theorem dX0_quarrelCount_2 : decode cX0_quarrelCount 2 = .ok (.iconst 0, 1) := by decide +kernel
theorem dX0_quarrelCount_3 : decode cX0_quarrelCount 3 = .ok (.istore_n 3, 1) := by decide +kernel
theorem dX0_quarrelCount_4 : decode cX0_quarrelCount 4 = .ok (.iload_n 3, 1) := by decide +kernel
theorem dX0_quarrelCount_5 : decode cX0_quarrelCount 5 = .ok (.aload_n 0, 1) := by decide +kernel
theorem dX0_quarrelCount_6 : decode cX0_quarrelCount 6 = .ok (.getfield 9, 3) := by decide +kernel
theorem dX0_quarrelCount_9 : decode cX0_quarrelCount 9 = .ok (.if_icmp .ge 30, 3) := by decide +kernel
theorem dX0_quarrelCount_12 : decode cX0_quarrelCount 12 = .ok (.iload_n 1, 1) := by decide +kernel
theorem dX0_quarrelCount_13 : decode cX0_quarrelCount 13 = .ok (.iload_n 3, 1) := by decide +kernel
theorem dX0_quarrelCount_14 : decode cX0_quarrelCount 14 = .ok (.ishr, 1) := by decide +kernel
theorem dX0_quarrelCount_15 : decode cX0_quarrelCount 15 = .ok (.iconst 1, 1) := by decide +kernel
theorem dX0_quarrelCount_16 : decode cX0_quarrelCount 16 = .ok (.iand, 1) := by decide +kernel
theorem dX0_quarrelCount_17 : decode cX0_quarrelCount 17 = .ok (.iconst 1, 1) := by decide +kernel
theorem dX0_quarrelCount_18 : decode cX0_quarrelCount 18 = .ok (.if_icmp .ne 15, 3) := by decide +kernel
theorem dX0_quarrelCount_21 : decode cX0_quarrelCount 21 = .ok (.iload_n 2, 1) := by decide +kernel
theorem dX0_quarrelCount_22 : decode cX0_quarrelCount 22 = .ok (.aload_n 0, 1) := by decide +kernel
theorem dX0_quarrelCount_23 : decode cX0_quarrelCount 23 = .ok (.iload_n 3, 1) := by decide +kernel
theorem dX0_quarrelCount_24 : decode cX0_quarrelCount 24 = .ok (.iload_n 1, 1) := by decide +kernel
theorem dX0_quarrelCount_25 : decode cX0_quarrelCount 25 = .ok (.invokevirtual 85, 3) := by decide +kernel
theorem dX0_quarrelCount_28 : decode cX0_quarrelCount 28 = .ok (.invokestatic 88, 3) := by decide +kernel
theorem dX0_quarrelCount_31 : decode cX0_quarrelCount 31 = .ok (.iadd, 1) := by decide +kernel
theorem dX0_quarrelCount_32 : decode cX0_quarrelCount 32 = .ok (.istore_n 2, 1) := by decide +kernel
theorem dX0_quarrelCount_33 : decode cX0_quarrelCount 33 = .ok (.iinc 3 1, 3) := by decide +kernel
theorem dX0_quarrelCount_36 : decode cX0_quarrelCount 36 = .ok (.goto (-32), 3) := by decide +kernel
theorem dX0_quarrelCount_39 : decode cX0_quarrelCount 39 = .ok (.iload_n 2, 1) := by decide +kernel
theorem dX0_quarrelCount_40 : decode cX0_quarrelCount 40 = .ok (.iconst 2, 1) := by decide +kernel
theorem dX0_quarrelCount_41 : decode cX0_quarrelCount 41 = .ok (.idiv, 1) := by decide +kernel
theorem dX0_quarrelCount_42 : decode cX0_quarrelCount 42 = .ok (.ireturn, 1) := by decide +kernel
theorem dX0_leastQuarrel_0 : decode cX0_leastQuarrel 0 = .ok (.iconst 0, 1) := by decide +kernel
theorem dX0_leastQuarrel_1 : decode cX0_leastQuarrel 1 = .ok (.istore_n 2, 1) := by decide +kernel
theorem dX0_leastQuarrel_2 : decode cX0_leastQuarrel 2 = .ok (.iload_n 2, 1) := by decide +kernel
theorem dX0_leastQuarrel_3 : decode cX0_leastQuarrel 3 = .ok (.aload_n 0, 1) := by decide +kernel
theorem dX0_leastQuarrel_4 : decode cX0_leastQuarrel 4 = .ok (.getfield 9, 3) := by decide +kernel
theorem dX0_leastQuarrel_7 : decode cX0_leastQuarrel 7 = .ok (.if_icmp .ge 57, 3) := by decide +kernel
theorem dX0_leastQuarrel_10 : decode cX0_leastQuarrel 10 = .ok (.iload_n 2, 1) := by decide +kernel
theorem dX0_leastQuarrel_11 : decode cX0_leastQuarrel 11 = .ok (.iconst 1, 1) := by decide +kernel
theorem dX0_leastQuarrel_12 : decode cX0_leastQuarrel 12 = .ok (.iadd, 1) := by decide +kernel
theorem dX0_leastQuarrel_13 : decode cX0_leastQuarrel 13 = .ok (.istore_n 3, 1) := by decide +kernel
theorem dX0_leastQuarrel_14 : decode cX0_leastQuarrel 14 = .ok (.iload_n 3, 1) := by decide +kernel
theorem dX0_leastQuarrel_15 : decode cX0_leastQuarrel 15 = .ok (.aload_n 0, 1) := by decide +kernel
theorem dX0_leastQuarrel_16 : decode cX0_leastQuarrel 16 = .ok (.getfield 9, 3) := by decide +kernel
theorem dX0_leastQuarrel_19 : decode cX0_leastQuarrel 19 = .ok (.if_icmp .ge 39, 3) := by decide +kernel
theorem dX0_leastQuarrel_22 : decode cX0_leastQuarrel 22 = .ok (.iload_n 1, 1) := by decide +kernel
theorem dX0_leastQuarrel_23 : decode cX0_leastQuarrel 23 = .ok (.iload_n 2, 1) := by decide +kernel
theorem dX0_leastQuarrel_24 : decode cX0_leastQuarrel 24 = .ok (.ishr, 1) := by decide +kernel
theorem dX0_leastQuarrel_25 : decode cX0_leastQuarrel 25 = .ok (.iconst 1, 1) := by decide +kernel
theorem dX0_leastQuarrel_26 : decode cX0_leastQuarrel 26 = .ok (.iand, 1) := by decide +kernel
theorem dX0_leastQuarrel_27 : decode cX0_leastQuarrel 27 = .ok (.iconst 1, 1) := by decide +kernel
theorem dX0_leastQuarrel_28 : decode cX0_leastQuarrel 28 = .ok (.if_icmp .ne 24, 3) := by decide +kernel
theorem dX0_leastQuarrel_31 : decode cX0_leastQuarrel 31 = .ok (.aload_n 0, 1) := by decide +kernel
theorem dX0_leastQuarrel_32 : decode cX0_leastQuarrel 32 = .ok (.iload_n 2, 1) := by decide +kernel
theorem dX0_leastQuarrel_33 : decode cX0_leastQuarrel 33 = .ok (.iload_n 1, 1) := by decide +kernel
theorem dX0_leastQuarrel_34 : decode cX0_leastQuarrel 34 = .ok (.invokevirtual 85, 3) := by decide +kernel
theorem dX0_leastQuarrel_37 : decode cX0_leastQuarrel 37 = .ok (.iload_n 3, 1) := by decide +kernel
theorem dX0_leastQuarrel_38 : decode cX0_leastQuarrel 38 = .ok (.ishr, 1) := by decide +kernel
theorem dX0_leastQuarrel_39 : decode cX0_leastQuarrel 39 = .ok (.iconst 1, 1) := by decide +kernel
theorem dX0_leastQuarrel_40 : decode cX0_leastQuarrel 40 = .ok (.iand, 1) := by decide +kernel
theorem dX0_leastQuarrel_41 : decode cX0_leastQuarrel 41 = .ok (.iconst 1, 1) := by decide +kernel
theorem dX0_leastQuarrel_42 : decode cX0_leastQuarrel 42 = .ok (.if_icmp .ne 10, 3) := by decide +kernel
theorem dX0_leastQuarrel_45 : decode cX0_leastQuarrel 45 = .ok (.bipush 12, 2) := by decide +kernel
theorem dX0_leastQuarrel_47 : decode cX0_leastQuarrel 47 = .ok (.iload_n 2, 1) := by decide +kernel
theorem dX0_leastQuarrel_48 : decode cX0_leastQuarrel 48 = .ok (.imul, 1) := by decide +kernel
theorem dX0_leastQuarrel_49 : decode cX0_leastQuarrel 49 = .ok (.iload_n 3, 1) := by decide +kernel
theorem dX0_leastQuarrel_50 : decode cX0_leastQuarrel 50 = .ok (.iadd, 1) := by decide +kernel
theorem dX0_leastQuarrel_51 : decode cX0_leastQuarrel 51 = .ok (.ireturn, 1) := by decide +kernel
theorem dX0_leastQuarrel_52 : decode cX0_leastQuarrel 52 = .ok (.iinc 3 1, 3) := by decide +kernel
theorem dX0_leastQuarrel_55 : decode cX0_leastQuarrel 55 = .ok (.goto (-41), 3) := by decide +kernel
theorem dX0_leastQuarrel_58 : decode cX0_leastQuarrel 58 = .ok (.iinc 2 1, 3) := by decide +kernel
theorem dX0_leastQuarrel_61 : decode cX0_leastQuarrel 61 = .ok (.goto (-59), 3) := by decide +kernel
theorem dX0_leastQuarrel_64 : decode cX0_leastQuarrel 64 = .ok (.iconst (-1), 1) := by decide +kernel
theorem dX0_leastQuarrel_65 : decode cX0_leastQuarrel 65 = .ok (.ireturn, 1) := by decide +kernel
theorem dX0_hindrances_0 : decode cX0_hindrances 0 = .ok (.iconst 0, 1) := by decide +kernel
theorem dX0_hindrances_1 : decode cX0_hindrances 1 = .ok (.istore 4, 2) := by decide +kernel
theorem dX0_hindrances_3 : decode cX0_hindrances 3 = .ok (.iload_n 2, 1) := by decide +kernel
theorem dX0_hindrances_4 : decode cX0_hindrances 4 = .ok (.bipush 6, 2) := by decide +kernel
theorem dX0_hindrances_6 : decode cX0_hindrances 6 = .ok (.imul, 1) := by decide +kernel
theorem dX0_hindrances_7 : decode cX0_hindrances 7 = .ok (.istore 5, 2) := by decide +kernel
theorem dX0_hindrances_9 : decode cX0_hindrances 9 = .ok (.iconst 0, 1) := by decide +kernel
theorem dX0_hindrances_10 : decode cX0_hindrances 10 = .ok (.istore 6, 2) := by decide +kernel
theorem dX0_hindrances_12 : decode cX0_hindrances 12 = .ok (.iload 6, 2) := by decide +kernel
theorem dX0_hindrances_14 : decode cX0_hindrances 14 = .ok (.bipush 6, 2) := by decide +kernel
theorem dX0_hindrances_16 : decode cX0_hindrances 16 = .ok (.if_icmp .ge 43, 3) := by decide +kernel
theorem dX0_hindrances_19 : decode cX0_hindrances 19 = .ok (.iload 4, 2) := by decide +kernel
theorem dX0_hindrances_21 : decode cX0_hindrances 21 = .ok (.iload 6, 2) := by decide +kernel
theorem dX0_hindrances_23 : decode cX0_hindrances 23 = .ok (.iload_n 3, 1) := by decide +kernel
theorem dX0_hindrances_24 : decode cX0_hindrances 24 = .ok (.if_icmp .ne 16, 3) := by decide +kernel
theorem dX0_hindrances_27 : decode cX0_hindrances 27 = .ok (.aload_n 0, 1) := by decide +kernel
theorem dX0_hindrances_28 : decode cX0_hindrances 28 = .ok (.getfield 43, 3) := by decide +kernel
theorem dX0_hindrances_31 : decode cX0_hindrances 31 = .ok (.iload 5, 2) := by decide +kernel
theorem dX0_hindrances_33 : decode cX0_hindrances 33 = .ok (.iload 6, 2) := by decide +kernel
theorem dX0_hindrances_35 : decode cX0_hindrances 35 = .ok (.iadd, 1) := by decide +kernel
theorem dX0_hindrances_36 : decode cX0_hindrances 36 = .ok (.iaload, 1) := by decide +kernel
theorem dX0_hindrances_37 : decode cX0_hindrances 37 = .ok (.goto 13, 3) := by decide +kernel
theorem dX0_hindrances_40 : decode cX0_hindrances 40 = .ok (.aload_n 0, 1) := by decide +kernel
theorem dX0_hindrances_41 : decode cX0_hindrances 41 = .ok (.getfield 40, 3) := by decide +kernel
theorem dX0_hindrances_44 : decode cX0_hindrances 44 = .ok (.iload 5, 2) := by decide +kernel
theorem dX0_hindrances_46 : decode cX0_hindrances 46 = .ok (.iload 6, 2) := by decide +kernel
theorem dX0_hindrances_48 : decode cX0_hindrances 48 = .ok (.iadd, 1) := by decide +kernel
theorem dX0_hindrances_49 : decode cX0_hindrances 49 = .ok (.iaload, 1) := by decide +kernel
theorem dX0_hindrances_50 : decode cX0_hindrances 50 = .ok (.ior, 1) := by decide +kernel
theorem dX0_hindrances_51 : decode cX0_hindrances 51 = .ok (.istore 4, 2) := by decide +kernel
theorem dX0_hindrances_53 : decode cX0_hindrances 53 = .ok (.iinc 6 1, 3) := by decide +kernel
theorem dX0_hindrances_56 : decode cX0_hindrances 56 = .ok (.goto (-44), 3) := by decide +kernel
theorem dX0_hindrances_59 : decode cX0_hindrances 59 = .ok (.iload 4, 2) := by decide +kernel
theorem dX0_hindrances_61 : decode cX0_hindrances 61 = .ok (.iload_n 1, 1) := by decide +kernel
theorem dX0_hindrances_62 : decode cX0_hindrances 62 = .ok (.iand, 1) := by decide +kernel
theorem dX0_hindrances_63 : decode cX0_hindrances 63 = .ok (.ireturn, 1) := by decide +kernel
theorem dX0_leastExemption_0 : decode cX0_leastExemption 0 = .ok (.aload_n 0, 1) := by decide +kernel
theorem dX0_leastExemption_1 : decode cX0_leastExemption 1 = .ok (.iload_n 1, 1) := by decide +kernel
theorem dX0_leastExemption_2 : decode cX0_leastExemption 2 = .ok (.iload_n 2, 1) := by decide +kernel
theorem dX0_leastExemption_3 : decode cX0_leastExemption 3 = .ok (.iload_n 3, 1) := by decide +kernel
theorem dX0_leastExemption_4 : decode cX0_leastExemption 4 = .ok (.invokevirtual 93, 3) := by decide +kernel
theorem dX0_leastExemption_7 : decode cX0_leastExemption 7 = .ok (.istore 4, 2) := by decide +kernel
theorem dX0_leastExemption_9 : decode cX0_leastExemption 9 = .ok (.aload_n 0, 1) := by decide +kernel
theorem dX0_leastExemption_10 : decode cX0_leastExemption 10 = .ok (.iload_n 1, 1) := by decide +kernel
theorem dX0_leastExemption_11 : decode cX0_leastExemption 11 = .ok (.iload 4, 2) := by decide +kernel
theorem dX0_leastExemption_13 : decode cX0_leastExemption 13 = .ok (.iconst (-1), 1) := by decide +kernel
theorem dX0_leastExemption_14 : decode cX0_leastExemption 14 = .ok (.ixor, 1) := by decide +kernel
theorem dX0_leastExemption_15 : decode cX0_leastExemption 15 = .ok (.iand, 1) := by decide +kernel
theorem dX0_leastExemption_16 : decode cX0_leastExemption 16 = .ok (.iload_n 2, 1) := by decide +kernel
theorem dX0_leastExemption_17 : decode cX0_leastExemption 17 = .ok (.invokevirtual 82, 3) := by decide +kernel
theorem dX0_leastExemption_20 : decode cX0_leastExemption 20 = .ok (.iload_n 3, 1) := by decide +kernel
theorem dX0_leastExemption_21 : decode cX0_leastExemption 21 = .ok (.if_icmp .ne 8, 3) := by decide +kernel
theorem dX0_leastExemption_24 : decode cX0_leastExemption 24 = .ok (.iload 4, 2) := by decide +kernel
theorem dX0_leastExemption_26 : decode cX0_leastExemption 26 = .ok (.goto 4, 3) := by decide +kernel
theorem dX0_leastExemption_29 : decode cX0_leastExemption 29 = .ok (.iconst (-1), 1) := by decide +kernel
theorem dX0_leastExemption_30 : decode cX0_leastExemption 30 = .ok (.ireturn, 1) := by decide +kernel
theorem dX0_coveringLaws_0 : decode cX0_coveringLaws 0 = .ok (.aload_n 0, 1) := by decide +kernel
theorem dX0_coveringLaws_1 : decode cX0_coveringLaws 1 = .ok (.getfield 49, 3) := by decide +kernel
theorem dX0_coveringLaws_4 : decode cX0_coveringLaws 4 = .ok (.iload_n 1, 1) := by decide +kernel
theorem dX0_coveringLaws_5 : decode cX0_coveringLaws 5 = .ok (.iaload, 1) := by decide +kernel
theorem dX0_coveringLaws_6 : decode cX0_coveringLaws 6 = .ok (.ireturn, 1) := by decide +kernel
theorem dX0_ordersOf_0 : decode cX0_ordersOf 0 = .ok (.aload_n 0, 1) := by decide +kernel
theorem dX0_ordersOf_1 : decode cX0_ordersOf 1 = .ok (.getfield 40, 3) := by decide +kernel
theorem dX0_ordersOf_4 : decode cX0_ordersOf 4 = .ok (.iload_n 1, 1) := by decide +kernel
theorem dX0_ordersOf_5 : decode cX0_ordersOf 5 = .ok (.bipush 6, 2) := by decide +kernel
theorem dX0_ordersOf_7 : decode cX0_ordersOf 7 = .ok (.imul, 1) := by decide +kernel
theorem dX0_ordersOf_8 : decode cX0_ordersOf 8 = .ok (.iload_n 2, 1) := by decide +kernel
theorem dX0_ordersOf_9 : decode cX0_ordersOf 9 = .ok (.iadd, 1) := by decide +kernel
theorem dX0_ordersOf_10 : decode cX0_ordersOf 10 = .ok (.iaload, 1) := by decide +kernel
theorem dX0_ordersOf_11 : decode cX0_ordersOf 11 = .ok (.ireturn, 1) := by decide +kernel
theorem dX0_bansOf_0 : decode cX0_bansOf 0 = .ok (.aload_n 0, 1) := by decide +kernel
theorem dX0_bansOf_1 : decode cX0_bansOf 1 = .ok (.getfield 43, 3) := by decide +kernel
theorem dX0_bansOf_4 : decode cX0_bansOf 4 = .ok (.iload_n 1, 1) := by decide +kernel
theorem dX0_bansOf_5 : decode cX0_bansOf 5 = .ok (.bipush 6, 2) := by decide +kernel
theorem dX0_bansOf_7 : decode cX0_bansOf 7 = .ok (.imul, 1) := by decide +kernel
theorem dX0_bansOf_8 : decode cX0_bansOf 8 = .ok (.iload_n 2, 1) := by decide +kernel
theorem dX0_bansOf_9 : decode cX0_bansOf 9 = .ok (.iadd, 1) := by decide +kernel
theorem dX0_bansOf_10 : decode cX0_bansOf 10 = .ok (.iaload, 1) := by decide +kernel
theorem dX0_bansOf_11 : decode cX0_bansOf 11 = .ok (.ireturn, 1) := by decide +kernel
theorem dX0_prefers_0 : decode cX0_prefers 0 = .ok (.aload_n 0, 1) := by decide +kernel
theorem dX0_prefers_1 : decode cX0_prefers 1 = .ok (.getfield 46, 3) := by decide +kernel
theorem dX0_prefers_4 : decode cX0_prefers 4 = .ok (.iload_n 1, 1) := by decide +kernel
theorem dX0_prefers_5 : decode cX0_prefers 5 = .ok (.bipush 6, 2) := by decide +kernel
theorem dX0_prefers_7 : decode cX0_prefers 7 = .ok (.imul, 1) := by decide +kernel
theorem dX0_prefers_8 : decode cX0_prefers 8 = .ok (.iload_n 2, 1) := by decide +kernel
theorem dX0_prefers_9 : decode cX0_prefers 9 = .ok (.iadd, 1) := by decide +kernel
theorem dX0_prefers_10 : decode cX0_prefers 10 = .ok (.iaload, 1) := by decide +kernel
theorem dX0_prefers_11 : decode cX0_prefers 11 = .ok (.istore 4, 2) := by decide +kernel
theorem dX0_prefers_13 : decode cX0_prefers 13 = .ok (.iload_n 3, 1) := by decide +kernel
theorem dX0_prefers_14 : decode cX0_prefers 14 = .ok (.iconst (-1), 1) := by decide +kernel
theorem dX0_prefers_15 : decode cX0_prefers 15 = .ok (.if_icmp .ne 14, 3) := by decide +kernel
theorem dX0_prefers_18 : decode cX0_prefers 18 = .ok (.iload 4, 2) := by decide +kernel
theorem dX0_prefers_20 : decode cX0_prefers 20 = .ok (.ifCond .le 7, 3) := by decide +kernel
theorem dX0_prefers_23 : decode cX0_prefers 23 = .ok (.iconst 1, 1) := by decide +kernel
theorem dX0_prefers_24 : decode cX0_prefers 24 = .ok (.goto 4, 3) := by decide +kernel
theorem dX0_prefers_27 : decode cX0_prefers 27 = .ok (.iconst 0, 1) := by decide +kernel
theorem dX0_prefers_28 : decode cX0_prefers 28 = .ok (.ireturn, 1) := by decide +kernel
theorem dX0_prefers_29 : decode cX0_prefers 29 = .ok (.aload_n 0, 1) := by decide +kernel
theorem dX0_prefers_30 : decode cX0_prefers 30 = .ok (.getfield 46, 3) := by decide +kernel
theorem dX0_prefers_33 : decode cX0_prefers 33 = .ok (.iload_n 1, 1) := by decide +kernel
theorem dX0_prefers_34 : decode cX0_prefers 34 = .ok (.bipush 6, 2) := by decide +kernel
theorem dX0_prefers_36 : decode cX0_prefers 36 = .ok (.imul, 1) := by decide +kernel
theorem dX0_prefers_37 : decode cX0_prefers 37 = .ok (.iload_n 3, 1) := by decide +kernel
theorem dX0_prefers_38 : decode cX0_prefers 38 = .ok (.iadd, 1) := by decide +kernel
theorem dX0_prefers_39 : decode cX0_prefers 39 = .ok (.iaload, 1) := by decide +kernel
theorem dX0_prefers_40 : decode cX0_prefers 40 = .ok (.istore 5, 2) := by decide +kernel
theorem dX0_prefers_42 : decode cX0_prefers 42 = .ok (.iload 4, 2) := by decide +kernel
theorem dX0_prefers_44 : decode cX0_prefers 44 = .ok (.iload 5, 2) := by decide +kernel
theorem dX0_prefers_46 : decode cX0_prefers 46 = .ok (.if_icmp .gt 20, 3) := by decide +kernel
theorem dX0_prefers_49 : decode cX0_prefers 49 = .ok (.iload 4, 2) := by decide +kernel
theorem dX0_prefers_51 : decode cX0_prefers 51 = .ok (.ifCond .le 19, 3) := by decide +kernel
theorem dX0_prefers_54 : decode cX0_prefers 54 = .ok (.iload 4, 2) := by decide +kernel
theorem dX0_prefers_56 : decode cX0_prefers 56 = .ok (.iload 5, 2) := by decide +kernel
theorem dX0_prefers_58 : decode cX0_prefers 58 = .ok (.if_icmp .ne 12, 3) := by decide +kernel
theorem dX0_prefers_61 : decode cX0_prefers 61 = .ok (.iload_n 2, 1) := by decide +kernel
theorem dX0_prefers_62 : decode cX0_prefers 62 = .ok (.iload_n 3, 1) := by decide +kernel
theorem dX0_prefers_63 : decode cX0_prefers 63 = .ok (.if_icmp .ge 7, 3) := by decide +kernel
theorem dX0_prefers_66 : decode cX0_prefers 66 = .ok (.iconst 1, 1) := by decide +kernel
theorem dX0_prefers_67 : decode cX0_prefers 67 = .ok (.goto 4, 3) := by decide +kernel
theorem dX0_prefers_70 : decode cX0_prefers 70 = .ok (.iconst 0, 1) := by decide +kernel
theorem dX0_prefers_71 : decode cX0_prefers 71 = .ok (.ireturn, 1) := by decide +kernel
theorem dX0_isLikeBefore_0 : decode cX0_isLikeBefore 0 = .ok (.iload_n 1, 1) := by decide +kernel
theorem dX0_isLikeBefore_1 : decode cX0_isLikeBefore 1 = .ok (.ifCond .eq 20, 3) := by decide +kernel
theorem dX0_isLikeBefore_4 : decode cX0_isLikeBefore 4 = .ok (.aload_n 0, 1) := by decide +kernel
theorem dX0_isLikeBefore_5 : decode cX0_isLikeBefore 5 = .ok (.getfield 49, 3) := by decide +kernel
theorem dX0_isLikeBefore_8 : decode cX0_isLikeBefore 8 = .ok (.iload_n 1, 1) := by decide +kernel
theorem dX0_isLikeBefore_9 : decode cX0_isLikeBefore 9 = .ok (.iaload, 1) := by decide +kernel
theorem dX0_isLikeBefore_10 : decode cX0_isLikeBefore 10 = .ok (.aload_n 0, 1) := by decide +kernel
theorem dX0_isLikeBefore_11 : decode cX0_isLikeBefore 11 = .ok (.getfield 49, 3) := by decide +kernel
theorem dX0_isLikeBefore_14 : decode cX0_isLikeBefore 14 = .ok (.iload_n 1, 1) := by decide +kernel
theorem dX0_isLikeBefore_15 : decode cX0_isLikeBefore 15 = .ok (.iconst 1, 1) := by decide +kernel
theorem dX0_isLikeBefore_16 : decode cX0_isLikeBefore 16 = .ok (.isub, 1) := by decide +kernel
theorem dX0_isLikeBefore_17 : decode cX0_isLikeBefore 17 = .ok (.iaload, 1) := by decide +kernel
theorem dX0_isLikeBefore_18 : decode cX0_isLikeBefore 18 = .ok (.if_icmp .eq 5, 3) := by decide +kernel
theorem dX0_isLikeBefore_21 : decode cX0_isLikeBefore 21 = .ok (.iconst 0, 1) := by decide +kernel
theorem dX0_isLikeBefore_22 : decode cX0_isLikeBefore 22 = .ok (.ireturn, 1) := by decide +kernel
theorem dX0_isLikeBefore_23 : decode cX0_isLikeBefore 23 = .ok (.iconst 0, 1) := by decide +kernel
theorem dX0_isLikeBefore_24 : decode cX0_isLikeBefore 24 = .ok (.istore_n 2, 1) := by decide +kernel
theorem dX0_isLikeBefore_25 : decode cX0_isLikeBefore 25 = .ok (.iload_n 2, 1) := by decide +kernel
theorem dX0_isLikeBefore_26 : decode cX0_isLikeBefore 26 = .ok (.bipush 6, 2) := by decide +kernel
theorem dX0_isLikeBefore_28 : decode cX0_isLikeBefore 28 = .ok (.if_icmp .ge 38, 3) := by decide +kernel
theorem dX0_isLikeBefore_31 : decode cX0_isLikeBefore 31 = .ok (.aload_n 0, 1) := by decide +kernel
theorem dX0_isLikeBefore_32 : decode cX0_isLikeBefore 32 = .ok (.getfield 46, 3) := by decide +kernel
theorem dX0_isLikeBefore_35 : decode cX0_isLikeBefore 35 = .ok (.iload_n 1, 1) := by decide +kernel
theorem dX0_isLikeBefore_36 : decode cX0_isLikeBefore 36 = .ok (.bipush 6, 2) := by decide +kernel
theorem dX0_isLikeBefore_38 : decode cX0_isLikeBefore 38 = .ok (.imul, 1) := by decide +kernel
theorem dX0_isLikeBefore_39 : decode cX0_isLikeBefore 39 = .ok (.iload_n 2, 1) := by decide +kernel
theorem dX0_isLikeBefore_40 : decode cX0_isLikeBefore 40 = .ok (.iadd, 1) := by decide +kernel
theorem dX0_isLikeBefore_41 : decode cX0_isLikeBefore 41 = .ok (.iaload, 1) := by decide +kernel
theorem dX0_isLikeBefore_42 : decode cX0_isLikeBefore 42 = .ok (.aload_n 0, 1) := by decide +kernel
theorem dX0_isLikeBefore_43 : decode cX0_isLikeBefore 43 = .ok (.getfield 46, 3) := by decide +kernel
theorem dX0_isLikeBefore_46 : decode cX0_isLikeBefore 46 = .ok (.iload_n 1, 1) := by decide +kernel
theorem dX0_isLikeBefore_47 : decode cX0_isLikeBefore 47 = .ok (.iconst 1, 1) := by decide +kernel
theorem dX0_isLikeBefore_48 : decode cX0_isLikeBefore 48 = .ok (.isub, 1) := by decide +kernel
theorem dX0_isLikeBefore_49 : decode cX0_isLikeBefore 49 = .ok (.bipush 6, 2) := by decide +kernel
theorem dX0_isLikeBefore_51 : decode cX0_isLikeBefore 51 = .ok (.imul, 1) := by decide +kernel
theorem dX0_isLikeBefore_52 : decode cX0_isLikeBefore 52 = .ok (.iload_n 2, 1) := by decide +kernel
theorem dX0_isLikeBefore_53 : decode cX0_isLikeBefore 53 = .ok (.iadd, 1) := by decide +kernel
theorem dX0_isLikeBefore_54 : decode cX0_isLikeBefore 54 = .ok (.iaload, 1) := by decide +kernel
theorem dX0_isLikeBefore_55 : decode cX0_isLikeBefore 55 = .ok (.if_icmp .eq 5, 3) := by decide +kernel
theorem dX0_isLikeBefore_58 : decode cX0_isLikeBefore 58 = .ok (.iconst 0, 1) := by decide +kernel
theorem dX0_isLikeBefore_59 : decode cX0_isLikeBefore 59 = .ok (.ireturn, 1) := by decide +kernel
theorem dX0_isLikeBefore_60 : decode cX0_isLikeBefore 60 = .ok (.iinc 2 1, 3) := by decide +kernel
theorem dX0_isLikeBefore_63 : decode cX0_isLikeBefore 63 = .ok (.goto (-38), 3) := by decide +kernel
theorem dX0_isLikeBefore_66 : decode cX0_isLikeBefore 66 = .ok (.iconst 1, 1) := by decide +kernel
theorem dX0_isLikeBefore_67 : decode cX0_isLikeBefore 67 = .ok (.ireturn, 1) := by decide +kernel
theorem dX1_init_0 : decode cX1_init 0 = .ok (.aload_n 0, 1) := by decide +kernel
theorem dX1_init_1 : decode cX1_init 1 = .ok (.invokespecial 3, 3) := by decide +kernel
theorem dX1_init_4 : decode cX1_init 4 = .ok (.aload_n 0, 1) := by decide +kernel
theorem dX1_init_5 : decode cX1_init 5 = .ok (.lconst 0, 1) := by decide +kernel
theorem dX1_init_6 : decode cX1_init 6 = .ok (.putfield 9, 3) := by decide +kernel
theorem dX1_init_9 : decode cX1_init 9 = .ok (.aload_n 0, 1) := by decide +kernel
theorem dX1_init_10 : decode cX1_init 10 = .ok (.lconst 1, 1) := by decide +kernel
theorem dX1_init_11 : decode cX1_init 11 = .ok (.putfield 15, 3) := by decide +kernel
theorem dX1_init_14 : decode cX1_init 14 = .ok (.aload_n 0, 1) := by decide +kernel
theorem dX1_init_15 : decode cX1_init 15 = .ok (.bipush 6, 2) := by decide +kernel
theorem dX1_init_17 : decode cX1_init 17 = .ok (.newarray .int, 2) := by decide +kernel
theorem dX1_init_19 : decode cX1_init 19 = .ok (.putfield 18, 3) := by decide +kernel
theorem dX1_init_22 : decode cX1_init 22 = .ok (.aload_n 0, 1) := by decide +kernel
theorem dX1_init_23 : decode cX1_init 23 = .ok (.bipush 6, 2) := by decide +kernel
theorem dX1_init_25 : decode cX1_init 25 = .ok (.newarray .int, 2) := by decide +kernel
theorem dX1_init_27 : decode cX1_init 27 = .ok (.putfield 22, 3) := by decide +kernel
theorem dX1_init_30 : decode cX1_init 30 = .ok (.aload_n 0, 1) := by decide +kernel
theorem dX1_init_31 : decode cX1_init 31 = .ok (.bipush 13, 2) := by decide +kernel
theorem dX1_init_33 : decode cX1_init 33 = .ok (.newarray .long, 2) := by decide +kernel
theorem dX1_init_35 : decode cX1_init 35 = .ok (.putfield 25, 3) := by decide +kernel
theorem dX1_init_38 : decode cX1_init 38 = .ok (.aload_n 0, 1) := by decide +kernel
theorem dX1_init_39 : decode cX1_init 39 = .ok (.bipush 13, 2) := by decide +kernel
theorem dX1_init_41 : decode cX1_init 41 = .ok (.newarray .long, 2) := by decide +kernel
theorem dX1_init_43 : decode cX1_init 43 = .ok (.putfield 29, 3) := by decide +kernel
theorem dX1_init_46 : decode cX1_init 46 = .ok (.return_, 1) := by decide +kernel
theorem dX1_reckon_0 : decode cX1_reckon 0 = .ok (.aload_n 0, 1) := by decide +kernel
theorem dX1_reckon_1 : decode cX1_reckon 1 = .ok (.iload 4, 2) := by decide +kernel
theorem dX1_reckon_3 : decode cX1_reckon 3 = .ok (.invokevirtual 32, 3) := by decide +kernel
theorem dX1_reckon_6 : decode cX1_reckon 6 = .ok (.iconst 0, 1) := by decide +kernel
theorem dX1_reckon_7 : decode cX1_reckon 7 = .ok (.istore 6, 2) := by decide +kernel
theorem dX1_reckon_9 : decode cX1_reckon 9 = .ok (.iconst 0, 1) := by decide +kernel
theorem dX1_reckon_10 : decode cX1_reckon 10 = .ok (.istore 7, 2) := by decide +kernel
theorem dX1_reckon_12 : decode cX1_reckon 12 = .ok (.iload 7, 2) := by decide +kernel
theorem dX1_reckon_14 : decode cX1_reckon 14 = .ok (.bipush 6, 2) := by decide +kernel
theorem dX1_reckon_16 : decode cX1_reckon 16 = .ok (.if_icmp .ge 67, 3) := by decide +kernel
theorem dX1_reckon_19 : decode cX1_reckon 19 = .ok (.aload_n 0, 1) := by decide +kernel
theorem dX1_reckon_20 : decode cX1_reckon 20 = .ok (.getfield 18, 3) := by decide +kernel
theorem dX1_reckon_23 : decode cX1_reckon 23 = .ok (.iload 7, 2) := by decide +kernel
theorem dX1_reckon_25 : decode cX1_reckon 25 = .ok (.iload_n 2, 1) := by decide +kernel
theorem dX1_reckon_26 : decode cX1_reckon 26 = .ok (.aload_n 1, 1) := by decide +kernel
theorem dX1_reckon_27 : decode cX1_reckon 27 = .ok (.iload_n 3, 1) := by decide +kernel
theorem dX1_reckon_28 : decode cX1_reckon 28 = .ok (.iload 7, 2) := by decide +kernel
theorem dX1_reckon_30 : decode cX1_reckon 30 = .ok (.invokevirtual 36, 3) := by decide +kernel
theorem dX1_reckon_33 : decode cX1_reckon 33 = .ok (.iand, 1) := by decide +kernel
theorem dX1_reckon_34 : decode cX1_reckon 34 = .ok (.invokestatic 42, 3) := by decide +kernel
theorem dX1_reckon_37 : decode cX1_reckon 37 = .ok (.iastore, 1) := by decide +kernel
theorem dX1_reckon_38 : decode cX1_reckon 38 = .ok (.aload_n 0, 1) := by decide +kernel
theorem dX1_reckon_39 : decode cX1_reckon 39 = .ok (.getfield 22, 3) := by decide +kernel
theorem dX1_reckon_42 : decode cX1_reckon 42 = .ok (.iload 7, 2) := by decide +kernel
theorem dX1_reckon_44 : decode cX1_reckon 44 = .ok (.iload_n 2, 1) := by decide +kernel
theorem dX1_reckon_45 : decode cX1_reckon 45 = .ok (.aload_n 1, 1) := by decide +kernel
theorem dX1_reckon_46 : decode cX1_reckon 46 = .ok (.iload_n 3, 1) := by decide +kernel
theorem dX1_reckon_47 : decode cX1_reckon 47 = .ok (.iload 7, 2) := by decide +kernel
theorem dX1_reckon_49 : decode cX1_reckon 49 = .ok (.invokevirtual 48, 3) := by decide +kernel
theorem dX1_reckon_52 : decode cX1_reckon 52 = .ok (.iand, 1) := by decide +kernel
theorem dX1_reckon_53 : decode cX1_reckon 53 = .ok (.invokestatic 42, 3) := by decide +kernel
theorem dX1_reckon_56 : decode cX1_reckon 56 = .ok (.iastore, 1) := by decide +kernel
theorem dX1_reckon_57 : decode cX1_reckon 57 = .ok (.iload 6, 2) := by decide +kernel
theorem dX1_reckon_59 : decode cX1_reckon 59 = .ok (.aload_n 0, 1) := by decide +kernel
theorem dX1_reckon_60 : decode cX1_reckon 60 = .ok (.getfield 18, 3) := by decide +kernel
theorem dX1_reckon_63 : decode cX1_reckon 63 = .ok (.iload 7, 2) := by decide +kernel
theorem dX1_reckon_65 : decode cX1_reckon 65 = .ok (.iaload, 1) := by decide +kernel
theorem dX1_reckon_66 : decode cX1_reckon 66 = .ok (.aload_n 0, 1) := by decide +kernel
theorem dX1_reckon_67 : decode cX1_reckon 67 = .ok (.getfield 22, 3) := by decide +kernel
theorem dX1_reckon_70 : decode cX1_reckon 70 = .ok (.iload 7, 2) := by decide +kernel
theorem dX1_reckon_72 : decode cX1_reckon 72 = .ok (.iaload, 1) := by decide +kernel
theorem dX1_reckon_73 : decode cX1_reckon 73 = .ok (.iadd, 1) := by decide +kernel
theorem dX1_reckon_74 : decode cX1_reckon 74 = .ok (.iadd, 1) := by decide +kernel
theorem dX1_reckon_75 : decode cX1_reckon 75 = .ok (.istore 6, 2) := by decide +kernel
theorem dX1_reckon_77 : decode cX1_reckon 77 = .ok (.iinc 7 1, 3) := by decide +kernel
theorem dX1_reckon_80 : decode cX1_reckon 80 = .ok (.goto (-68), 3) := by decide +kernel
theorem dX1_reckon_83 : decode cX1_reckon 83 = .ok (.aload_n 0, 1) := by decide +kernel
theorem dX1_reckon_84 : decode cX1_reckon 84 = .ok (.aload_n 0, 1) := by decide +kernel
theorem dX1_reckon_85 : decode cX1_reckon 85 = .ok (.getfield 25, 3) := by decide +kernel
theorem dX1_reckon_88 : decode cX1_reckon 88 = .ok (.iload 6, 2) := by decide +kernel
theorem dX1_reckon_90 : decode cX1_reckon 90 = .ok (.bipush 12, 2) := by decide +kernel
theorem dX1_reckon_92 : decode cX1_reckon 92 = .ok (.invokestatic 51, 3) := by decide +kernel
theorem dX1_reckon_95 : decode cX1_reckon 95 = .ok (.laload, 1) := by decide +kernel
theorem dX1_reckon_96 : decode cX1_reckon 96 = .ok (.putfield 15, 3) := by decide +kernel
theorem dX1_reckon_99 : decode cX1_reckon 99 = .ok (.iload 5, 2) := by decide +kernel
theorem dX1_reckon_101 : decode cX1_reckon 101 = .ok (.bipush 6, 2) := by decide +kernel
theorem dX1_reckon_103 : decode cX1_reckon 103 = .ok (.if_icmp .ne 47, 3) := by decide +kernel
theorem dX1_reckon_106 : decode cX1_reckon 106 = .ok (.aload_n 0, 1) := by decide +kernel
theorem dX1_reckon_107 : decode cX1_reckon 107 = .ok (.aload_n 0, 1) := by decide +kernel
theorem dX1_reckon_108 : decode cX1_reckon 108 = .ok (.getfield 15, 3) := by decide +kernel
theorem dX1_reckon_111 : decode cX1_reckon 111 = .ok (.putfield 9, 3) := by decide +kernel
theorem dX1_reckon_114 : decode cX1_reckon 114 = .ok (.iconst (-1), 1) := by decide +kernel
theorem dX1_reckon_115 : decode cX1_reckon 115 = .ok (.istore 7, 2) := by decide +kernel
theorem dX1_reckon_117 : decode cX1_reckon 117 = .ok (.iload 7, 2) := by decide +kernel
theorem dX1_reckon_119 : decode cX1_reckon 119 = .ok (.bipush 6, 2) := by decide +kernel
theorem dX1_reckon_121 : decode cX1_reckon 121 = .ok (.if_icmp .ge 26, 3) := by decide +kernel
theorem dX1_reckon_124 : decode cX1_reckon 124 = .ok (.aload_n 0, 1) := by decide +kernel
theorem dX1_reckon_125 : decode cX1_reckon 125 = .ok (.dup, 1) := by decide +kernel
theorem dX1_reckon_126 : decode cX1_reckon 126 = .ok (.getfield 9, 3) := by decide +kernel
theorem dX1_reckon_129 : decode cX1_reckon 129 = .ok (.aload_n 0, 1) := by decide +kernel
theorem dX1_reckon_130 : decode cX1_reckon 130 = .ok (.aload_n 1, 1) := by decide +kernel
theorem dX1_reckon_131 : decode cX1_reckon 131 = .ok (.iload_n 3, 1) := by decide +kernel
theorem dX1_reckon_132 : decode cX1_reckon 132 = .ok (.iload 7, 2) := by decide +kernel
theorem dX1_reckon_134 : decode cX1_reckon 134 = .ok (.invokevirtual 56, 3) := by decide +kernel
theorem dX1_reckon_137 : decode cX1_reckon 137 = .ok (.lsub, 1) := by decide +kernel
theorem dX1_reckon_138 : decode cX1_reckon 138 = .ok (.putfield 9, 3) := by decide +kernel
theorem dX1_reckon_141 : decode cX1_reckon 141 = .ok (.iinc 7 1, 3) := by decide +kernel
theorem dX1_reckon_144 : decode cX1_reckon 144 = .ok (.goto (-27), 3) := by decide +kernel
theorem dX1_reckon_147 : decode cX1_reckon 147 = .ok (.goto 15, 3) := by decide +kernel
theorem dX1_reckon_150 : decode cX1_reckon 150 = .ok (.aload_n 0, 1) := by decide +kernel
theorem dX1_reckon_151 : decode cX1_reckon 151 = .ok (.aload_n 0, 1) := by decide +kernel
theorem dX1_reckon_152 : decode cX1_reckon 152 = .ok (.aload_n 1, 1) := by decide +kernel
theorem dX1_reckon_153 : decode cX1_reckon 153 = .ok (.iload_n 3, 1) := by decide +kernel
theorem dX1_reckon_154 : decode cX1_reckon 154 = .ok (.iload 5, 2) := by decide +kernel
theorem dX1_reckon_156 : decode cX1_reckon 156 = .ok (.invokevirtual 56, 3) := by decide +kernel
theorem dX1_reckon_159 : decode cX1_reckon 159 = .ok (.putfield 9, 3) := by decide +kernel
theorem dX1_reckon_162 : decode cX1_reckon 162 = .ok (.aload_n 0, 1) := by decide +kernel
theorem dX1_reckon_163 : decode cX1_reckon 163 = .ok (.invokevirtual 60, 3) := by decide +kernel
theorem dX1_reckon_166 : decode cX1_reckon 166 = .ok (.return_, 1) := by decide +kernel
theorem dX1_layPowers_0 : decode cX1_layPowers 0 = .ok (.aload_n 0, 1) := by decide +kernel
theorem dX1_layPowers_1 : decode cX1_layPowers 1 = .ok (.getfield 25, 3) := by decide +kernel
theorem dX1_layPowers_4 : decode cX1_layPowers 4 = .ok (.iconst 0, 1) := by decide +kernel
theorem dX1_layPowers_5 : decode cX1_layPowers 5 = .ok (.lconst 1, 1) := by decide +kernel
theorem dX1_layPowers_6 : decode cX1_layPowers 6 = .ok (.lastore, 1) := by decide +kernel
theorem dX1_layPowers_7 : decode cX1_layPowers 7 = .ok (.aload_n 0, 1) := by decide +kernel
theorem dX1_layPowers_8 : decode cX1_layPowers 8 = .ok (.getfield 29, 3) := by decide +kernel
theorem dX1_layPowers_11 : decode cX1_layPowers 11 = .ok (.iconst 0, 1) := by decide +kernel
theorem dX1_layPowers_12 : decode cX1_layPowers 12 = .ok (.lconst 1, 1) := by decide +kernel
theorem dX1_layPowers_13 : decode cX1_layPowers 13 = .ok (.lastore, 1) := by decide +kernel
theorem dX1_layPowers_14 : decode cX1_layPowers 14 = .ok (.iconst 1, 1) := by decide +kernel
theorem dX1_layPowers_15 : decode cX1_layPowers 15 = .ok (.istore_n 2, 1) := by decide +kernel
theorem dX1_layPowers_16 : decode cX1_layPowers 16 = .ok (.iload_n 2, 1) := by decide +kernel
theorem dX1_layPowers_17 : decode cX1_layPowers 17 = .ok (.bipush 12, 2) := by decide +kernel
theorem dX1_layPowers_19 : decode cX1_layPowers 19 = .ok (.if_icmp .gt 44, 3) := by decide +kernel
theorem dX1_layPowers_22 : decode cX1_layPowers 22 = .ok (.aload_n 0, 1) := by decide +kernel
theorem dX1_layPowers_23 : decode cX1_layPowers 23 = .ok (.getfield 25, 3) := by decide +kernel
theorem dX1_layPowers_26 : decode cX1_layPowers 26 = .ok (.iload_n 2, 1) := by decide +kernel
theorem dX1_layPowers_27 : decode cX1_layPowers 27 = .ok (.ldc2_w 63, 3) := by decide +kernel
theorem dX1_layPowers_30 : decode cX1_layPowers 30 = .ok (.aload_n 0, 1) := by decide +kernel
theorem dX1_layPowers_31 : decode cX1_layPowers 31 = .ok (.getfield 25, 3) := by decide +kernel
theorem dX1_layPowers_34 : decode cX1_layPowers 34 = .ok (.iload_n 2, 1) := by decide +kernel
theorem dX1_layPowers_35 : decode cX1_layPowers 35 = .ok (.iconst 1, 1) := by decide +kernel
theorem dX1_layPowers_36 : decode cX1_layPowers 36 = .ok (.isub, 1) := by decide +kernel
theorem dX1_layPowers_37 : decode cX1_layPowers 37 = .ok (.laload, 1) := by decide +kernel
theorem dX1_layPowers_38 : decode cX1_layPowers 38 = .ok (.lmul, 1) := by decide +kernel
theorem dX1_layPowers_39 : decode cX1_layPowers 39 = .ok (.lastore, 1) := by decide +kernel
theorem dX1_layPowers_40 : decode cX1_layPowers 40 = .ok (.aload_n 0, 1) := by decide +kernel
theorem dX1_layPowers_41 : decode cX1_layPowers 41 = .ok (.getfield 29, 3) := by decide +kernel
theorem dX1_layPowers_44 : decode cX1_layPowers 44 = .ok (.iload_n 2, 1) := by decide +kernel
theorem dX1_layPowers_45 : decode cX1_layPowers 45 = .ok (.iload_n 1, 1) := by decide +kernel
theorem dX1_layPowers_46 : decode cX1_layPowers 46 = .ok (.i2l, 1) := by decide +kernel
theorem dX1_layPowers_47 : decode cX1_layPowers 47 = .ok (.aload_n 0, 1) := by decide +kernel
theorem dX1_layPowers_48 : decode cX1_layPowers 48 = .ok (.getfield 29, 3) := by decide +kernel
theorem dX1_layPowers_51 : decode cX1_layPowers 51 = .ok (.iload_n 2, 1) := by decide +kernel
theorem dX1_layPowers_52 : decode cX1_layPowers 52 = .ok (.iconst 1, 1) := by decide +kernel
theorem dX1_layPowers_53 : decode cX1_layPowers 53 = .ok (.isub, 1) := by decide +kernel
theorem dX1_layPowers_54 : decode cX1_layPowers 54 = .ok (.laload, 1) := by decide +kernel
theorem dX1_layPowers_55 : decode cX1_layPowers 55 = .ok (.lmul, 1) := by decide +kernel
theorem dX1_layPowers_56 : decode cX1_layPowers 56 = .ok (.lastore, 1) := by decide +kernel
theorem dX1_layPowers_57 : decode cX1_layPowers 57 = .ok (.iinc 2 1, 3) := by decide +kernel
theorem dX1_layPowers_60 : decode cX1_layPowers 60 = .ok (.goto (-44), 3) := by decide +kernel
theorem dX1_layPowers_63 : decode cX1_layPowers 63 = .ok (.return_, 1) := by decide +kernel
theorem dX1_waysTo_0 : decode cX1_waysTo 0 = .ok (.iload_n 3, 1) := by decide +kernel
theorem dX1_waysTo_1 : decode cX1_waysTo 1 = .ok (.iconst (-1), 1) := by decide +kernel
theorem dX1_waysTo_2 : decode cX1_waysTo 2 = .ok (.if_icmp .ne 11, 3) := by decide +kernel
theorem dX1_waysTo_5 : decode cX1_waysTo 5 = .ok (.aload_n 0, 1) := by decide +kernel
theorem dX1_waysTo_6 : decode cX1_waysTo 6 = .ok (.aload_n 1, 1) := by decide +kernel
theorem dX1_waysTo_7 : decode cX1_waysTo 7 = .ok (.iload_n 2, 1) := by decide +kernel
theorem dX1_waysTo_8 : decode cX1_waysTo 8 = .ok (.iconst (-1), 1) := by decide +kernel
theorem dX1_waysTo_9 : decode cX1_waysTo 9 = .ok (.invokevirtual 65, 3) := by decide +kernel
theorem dX1_waysTo_12 : decode cX1_waysTo 12 = .ok (.lreturn, 1) := by decide +kernel
theorem dX1_waysTo_13 : decode cX1_waysTo 13 = .ok (.aload_n 1, 1) := by decide +kernel
theorem dX1_waysTo_14 : decode cX1_waysTo 14 = .ok (.iload_n 2, 1) := by decide +kernel
theorem dX1_waysTo_15 : decode cX1_waysTo 15 = .ok (.iload_n 3, 1) := by decide +kernel
theorem dX1_waysTo_16 : decode cX1_waysTo 16 = .ok (.iconst (-1), 1) := by decide +kernel
theorem dX1_waysTo_17 : decode cX1_waysTo 17 = .ok (.invokevirtual 68, 3) := by decide +kernel
theorem dX1_waysTo_20 : decode cX1_waysTo 20 = .ok (.ifCond .eq 13, 3) := by decide +kernel
theorem dX1_waysTo_23 : decode cX1_waysTo 23 = .ok (.aload_n 0, 1) := by decide +kernel
theorem dX1_waysTo_24 : decode cX1_waysTo 24 = .ok (.aload_n 1, 1) := by decide +kernel
theorem dX1_waysTo_25 : decode cX1_waysTo 25 = .ok (.iload_n 2, 1) := by decide +kernel
theorem dX1_waysTo_26 : decode cX1_waysTo 26 = .ok (.iload_n 3, 1) := by decide +kernel
theorem dX1_waysTo_27 : decode cX1_waysTo 27 = .ok (.invokevirtual 65, 3) := by decide +kernel
theorem dX1_waysTo_30 : decode cX1_waysTo 30 = .ok (.goto 4, 3) := by decide +kernel
theorem dX1_waysTo_33 : decode cX1_waysTo 33 = .ok (.lconst 0, 1) := by decide +kernel
theorem dX1_waysTo_34 : decode cX1_waysTo 34 = .ok (.lstore 4, 2) := by decide +kernel
theorem dX1_waysTo_36 : decode cX1_waysTo 36 = .ok (.aload_n 0, 1) := by decide +kernel
theorem dX1_waysTo_37 : decode cX1_waysTo 37 = .ok (.iload_n 3, 1) := by decide +kernel
theorem dX1_waysTo_38 : decode cX1_waysTo 38 = .ok (.invokevirtual 72, 3) := by decide +kernel
theorem dX1_waysTo_41 : decode cX1_waysTo 41 = .ok (.lload 4, 2) := by decide +kernel
theorem dX1_waysTo_43 : decode cX1_waysTo 43 = .ok (.ladd, 1) := by decide +kernel
theorem dX1_waysTo_44 : decode cX1_waysTo 44 = .ok (.lreturn, 1) := by decide +kernel
theorem dX1_waysOrdered_0 : decode cX1_waysOrdered 0 = .ok (.aload_n 0, 1) := by decide +kernel
theorem dX1_waysOrdered_1 : decode cX1_waysOrdered 1 = .ok (.aload_n 0, 1) := by decide +kernel
theorem dX1_waysOrdered_2 : decode cX1_waysOrdered 2 = .ok (.getfield 18, 3) := by decide +kernel
theorem dX1_waysOrdered_5 : decode cX1_waysOrdered 5 = .ok (.iload_n 1, 1) := by decide +kernel
theorem dX1_waysOrdered_6 : decode cX1_waysOrdered 6 = .ok (.iaload, 1) := by decide +kernel
theorem dX1_waysOrdered_7 : decode cX1_waysOrdered 7 = .ok (.invokevirtual 76, 3) := by decide +kernel
theorem dX1_waysOrdered_10 : decode cX1_waysOrdered 10 = .ok (.aload_n 0, 1) := by decide +kernel
theorem dX1_waysOrdered_11 : decode cX1_waysOrdered 11 = .ok (.getfield 29, 3) := by decide +kernel
theorem dX1_waysOrdered_14 : decode cX1_waysOrdered 14 = .ok (.aload_n 0, 1) := by decide +kernel
theorem dX1_waysOrdered_15 : decode cX1_waysOrdered 15 = .ok (.getfield 22, 3) := by decide +kernel
theorem dX1_waysOrdered_18 : decode cX1_waysOrdered 18 = .ok (.iload_n 1, 1) := by decide +kernel
theorem dX1_waysOrdered_19 : decode cX1_waysOrdered 19 = .ok (.iaload, 1) := by decide +kernel
theorem dX1_waysOrdered_20 : decode cX1_waysOrdered 20 = .ok (.laload, 1) := by decide +kernel
theorem dX1_waysOrdered_21 : decode cX1_waysOrdered 21 = .ok (.lmul, 1) := by decide +kernel
theorem dX1_waysOrdered_22 : decode cX1_waysOrdered 22 = .ok (.lstore_n 2, 1) := by decide +kernel
theorem dX1_waysOrdered_23 : decode cX1_waysOrdered 23 = .ok (.iconst 0, 1) := by decide +kernel
theorem dX1_waysOrdered_24 : decode cX1_waysOrdered 24 = .ok (.istore 4, 2) := by decide +kernel
theorem dX1_waysOrdered_26 : decode cX1_waysOrdered 26 = .ok (.iload 4, 2) := by decide +kernel
theorem dX1_waysOrdered_28 : decode cX1_waysOrdered 28 = .ok (.bipush 6, 2) := by decide +kernel
theorem dX1_waysOrdered_30 : decode cX1_waysOrdered 30 = .ok (.if_icmp .ge 43, 3) := by decide +kernel
theorem dX1_waysOrdered_33 : decode cX1_waysOrdered 33 = .ok (.iload 4, 2) := by decide +kernel
theorem dX1_waysOrdered_35 : decode cX1_waysOrdered 35 = .ok (.iload_n 1, 1) := by decide +kernel
theorem dX1_waysOrdered_36 : decode cX1_waysOrdered 36 = .ok (.if_icmp .eq 31, 3) := by decide +kernel
theorem dX1_waysOrdered_39 : decode cX1_waysOrdered 39 = .ok (.lload_n 2, 1) := by decide +kernel
theorem dX1_waysOrdered_40 : decode cX1_waysOrdered 40 = .ok (.aload_n 0, 1) := by decide +kernel
theorem dX1_waysOrdered_41 : decode cX1_waysOrdered 41 = .ok (.getfield 29, 3) := by decide +kernel
theorem dX1_waysOrdered_44 : decode cX1_waysOrdered 44 = .ok (.aload_n 0, 1) := by decide +kernel
theorem dX1_waysOrdered_45 : decode cX1_waysOrdered 45 = .ok (.getfield 18, 3) := by decide +kernel
theorem dX1_waysOrdered_48 : decode cX1_waysOrdered 48 = .ok (.iload 4, 2) := by decide +kernel
theorem dX1_waysOrdered_50 : decode cX1_waysOrdered 50 = .ok (.iaload, 1) := by decide +kernel
theorem dX1_waysOrdered_51 : decode cX1_waysOrdered 51 = .ok (.laload, 1) := by decide +kernel
theorem dX1_waysOrdered_52 : decode cX1_waysOrdered 52 = .ok (.aload_n 0, 1) := by decide +kernel
theorem dX1_waysOrdered_53 : decode cX1_waysOrdered 53 = .ok (.getfield 25, 3) := by decide +kernel
theorem dX1_waysOrdered_56 : decode cX1_waysOrdered 56 = .ok (.aload_n 0, 1) := by decide +kernel
theorem dX1_waysOrdered_57 : decode cX1_waysOrdered 57 = .ok (.getfield 22, 3) := by decide +kernel
theorem dX1_waysOrdered_60 : decode cX1_waysOrdered 60 = .ok (.iload 4, 2) := by decide +kernel
theorem dX1_waysOrdered_62 : decode cX1_waysOrdered 62 = .ok (.iaload, 1) := by decide +kernel
theorem dX1_waysOrdered_63 : decode cX1_waysOrdered 63 = .ok (.laload, 1) := by decide +kernel
theorem dX1_waysOrdered_64 : decode cX1_waysOrdered 64 = .ok (.lmul, 1) := by decide +kernel
theorem dX1_waysOrdered_65 : decode cX1_waysOrdered 65 = .ok (.lmul, 1) := by decide +kernel
theorem dX1_waysOrdered_66 : decode cX1_waysOrdered 66 = .ok (.lstore_n 2, 1) := by decide +kernel
theorem dX1_waysOrdered_67 : decode cX1_waysOrdered 67 = .ok (.iinc 4 1, 3) := by decide +kernel
theorem dX1_waysOrdered_70 : decode cX1_waysOrdered 70 = .ok (.goto (-44), 3) := by decide +kernel
theorem dX1_waysOrdered_73 : decode cX1_waysOrdered 73 = .ok (.lload_n 2, 1) := by decide +kernel
theorem dX1_waysOrdered_74 : decode cX1_waysOrdered 74 = .ok (.lreturn, 1) := by decide +kernel
theorem dX1_waysLiked_0 : decode cX1_waysLiked 0 = .ok (.lconst 1, 1) := by decide +kernel
theorem dX1_waysLiked_1 : decode cX1_waysLiked 1 = .ok (.lstore 4, 2) := by decide +kernel
theorem dX1_waysLiked_3 : decode cX1_waysLiked 3 = .ok (.iconst 0, 1) := by decide +kernel
theorem dX1_waysLiked_4 : decode cX1_waysLiked 4 = .ok (.istore 6, 2) := by decide +kernel
theorem dX1_waysLiked_6 : decode cX1_waysLiked 6 = .ok (.iload 6, 2) := by decide +kernel
theorem dX1_waysLiked_8 : decode cX1_waysLiked 8 = .ok (.bipush 6, 2) := by decide +kernel
theorem dX1_waysLiked_10 : decode cX1_waysLiked 10 = .ok (.if_icmp .ge 99, 3) := by decide +kernel
theorem dX1_waysLiked_13 : decode cX1_waysLiked 13 = .ok (.lload 4, 2) := by decide +kernel
theorem dX1_waysLiked_15 : decode cX1_waysLiked 15 = .ok (.aload_n 0, 1) := by decide +kernel
theorem dX1_waysLiked_16 : decode cX1_waysLiked 16 = .ok (.getfield 29, 3) := by decide +kernel
theorem dX1_waysLiked_19 : decode cX1_waysLiked 19 = .ok (.aload_n 0, 1) := by decide +kernel
theorem dX1_waysLiked_20 : decode cX1_waysLiked 20 = .ok (.getfield 18, 3) := by decide +kernel
theorem dX1_waysLiked_23 : decode cX1_waysLiked 23 = .ok (.iload 6, 2) := by decide +kernel
theorem dX1_waysLiked_25 : decode cX1_waysLiked 25 = .ok (.iaload, 1) := by decide +kernel
theorem dX1_waysLiked_26 : decode cX1_waysLiked 26 = .ok (.laload, 1) := by decide +kernel
theorem dX1_waysLiked_27 : decode cX1_waysLiked 27 = .ok (.lmul, 1) := by decide +kernel
theorem dX1_waysLiked_28 : decode cX1_waysLiked 28 = .ok (.lstore 4, 2) := by decide +kernel
theorem dX1_waysLiked_30 : decode cX1_waysLiked 30 = .ok (.iload 6, 2) := by decide +kernel
theorem dX1_waysLiked_32 : decode cX1_waysLiked 32 = .ok (.iload_n 3, 1) := by decide +kernel
theorem dX1_waysLiked_33 : decode cX1_waysLiked 33 = .ok (.if_icmp .ne 23, 3) := by decide +kernel
theorem dX1_waysLiked_36 : decode cX1_waysLiked 36 = .ok (.lload 4, 2) := by decide +kernel
theorem dX1_waysLiked_38 : decode cX1_waysLiked 38 = .ok (.aload_n 0, 1) := by decide +kernel
theorem dX1_waysLiked_39 : decode cX1_waysLiked 39 = .ok (.getfield 29, 3) := by decide +kernel
theorem dX1_waysLiked_42 : decode cX1_waysLiked 42 = .ok (.aload_n 0, 1) := by decide +kernel
theorem dX1_waysLiked_43 : decode cX1_waysLiked 43 = .ok (.getfield 22, 3) := by decide +kernel
theorem dX1_waysLiked_46 : decode cX1_waysLiked 46 = .ok (.iload 6, 2) := by decide +kernel
theorem dX1_waysLiked_48 : decode cX1_waysLiked 48 = .ok (.iaload, 1) := by decide +kernel
theorem dX1_waysLiked_49 : decode cX1_waysLiked 49 = .ok (.laload, 1) := by decide +kernel
theorem dX1_waysLiked_50 : decode cX1_waysLiked 50 = .ok (.lmul, 1) := by decide +kernel
theorem dX1_waysLiked_51 : decode cX1_waysLiked 51 = .ok (.lstore 4, 2) := by decide +kernel
theorem dX1_waysLiked_53 : decode cX1_waysLiked 53 = .ok (.goto 50, 3) := by decide +kernel
theorem dX1_waysLiked_56 : decode cX1_waysLiked 56 = .ok (.aload_n 1, 1) := by decide +kernel
theorem dX1_waysLiked_57 : decode cX1_waysLiked 57 = .ok (.iload_n 2, 1) := by decide +kernel
theorem dX1_waysLiked_58 : decode cX1_waysLiked 58 = .ok (.iload 6, 2) := by decide +kernel
theorem dX1_waysLiked_60 : decode cX1_waysLiked 60 = .ok (.iload_n 3, 1) := by decide +kernel
theorem dX1_waysLiked_61 : decode cX1_waysLiked 61 = .ok (.invokevirtual 68, 3) := by decide +kernel
theorem dX1_waysLiked_64 : decode cX1_waysLiked 64 = .ok (.ifCond .eq 22, 3) := by decide +kernel
theorem dX1_waysLiked_67 : decode cX1_waysLiked 67 = .ok (.lload 4, 2) := by decide +kernel
theorem dX1_waysLiked_69 : decode cX1_waysLiked 69 = .ok (.aload_n 0, 1) := by decide +kernel
theorem dX1_waysLiked_70 : decode cX1_waysLiked 70 = .ok (.aload_n 0, 1) := by decide +kernel
theorem dX1_waysLiked_71 : decode cX1_waysLiked 71 = .ok (.getfield 22, 3) := by decide +kernel
theorem dX1_waysLiked_74 : decode cX1_waysLiked 74 = .ok (.iload 6, 2) := by decide +kernel
theorem dX1_waysLiked_76 : decode cX1_waysLiked 76 = .ok (.iaload, 1) := by decide +kernel
theorem dX1_waysLiked_77 : decode cX1_waysLiked 77 = .ok (.invokevirtual 76, 3) := by decide +kernel
theorem dX1_waysLiked_80 : decode cX1_waysLiked 80 = .ok (.lmul, 1) := by decide +kernel
theorem dX1_waysLiked_81 : decode cX1_waysLiked 81 = .ok (.lstore 4, 2) := by decide +kernel
theorem dX1_waysLiked_83 : decode cX1_waysLiked 83 = .ok (.goto 20, 3) := by decide +kernel
theorem dX1_waysLiked_86 : decode cX1_waysLiked 86 = .ok (.lload 4, 2) := by decide +kernel
theorem dX1_waysLiked_88 : decode cX1_waysLiked 88 = .ok (.aload_n 0, 1) := by decide +kernel
theorem dX1_waysLiked_89 : decode cX1_waysLiked 89 = .ok (.getfield 25, 3) := by decide +kernel
theorem dX1_waysLiked_92 : decode cX1_waysLiked 92 = .ok (.aload_n 0, 1) := by decide +kernel
theorem dX1_waysLiked_93 : decode cX1_waysLiked 93 = .ok (.getfield 22, 3) := by decide +kernel
theorem dX1_waysLiked_96 : decode cX1_waysLiked 96 = .ok (.iload 6, 2) := by decide +kernel
theorem dX1_waysLiked_98 : decode cX1_waysLiked 98 = .ok (.iaload, 1) := by decide +kernel
theorem dX1_waysLiked_99 : decode cX1_waysLiked 99 = .ok (.laload, 1) := by decide +kernel
theorem dX1_waysLiked_100 : decode cX1_waysLiked 100 = .ok (.lmul, 1) := by decide +kernel
theorem dX1_waysLiked_101 : decode cX1_waysLiked 101 = .ok (.lstore 4, 2) := by decide +kernel
theorem dX1_waysLiked_103 : decode cX1_waysLiked 103 = .ok (.iinc 6 1, 3) := by decide +kernel
theorem dX1_waysLiked_106 : decode cX1_waysLiked 106 = .ok (.goto (-100), 3) := by decide +kernel
theorem dX1_waysLiked_109 : decode cX1_waysLiked 109 = .ok (.lload 4, 2) := by decide +kernel
theorem dX1_waysLiked_111 : decode cX1_waysLiked 111 = .ok (.lreturn, 1) := by decide +kernel
theorem dX1_some_0 : decode cX1_some 0 = .ok (.aload_n 0, 1) := by decide +kernel
theorem dX1_some_1 : decode cX1_some 1 = .ok (.getfield 25, 3) := by decide +kernel
theorem dX1_some_4 : decode cX1_some 4 = .ok (.iload_n 1, 1) := by decide +kernel
theorem dX1_some_5 : decode cX1_some 5 = .ok (.laload, 1) := by decide +kernel
theorem dX1_some_6 : decode cX1_some 6 = .ok (.aload_n 0, 1) := by decide +kernel
theorem dX1_some_7 : decode cX1_some 7 = .ok (.getfield 29, 3) := by decide +kernel
theorem dX1_some_10 : decode cX1_some 10 = .ok (.iload_n 1, 1) := by decide +kernel
theorem dX1_some_11 : decode cX1_some 11 = .ok (.laload, 1) := by decide +kernel
theorem dX1_some_12 : decode cX1_some 12 = .ok (.lsub, 1) := by decide +kernel
theorem dX1_some_13 : decode cX1_some 13 = .ok (.lreturn, 1) := by decide +kernel
theorem dX1_lower_0 : decode cX1_lower 0 = .ok (.iconst 0, 1) := by decide +kernel
theorem dX1_lower_1 : decode cX1_lower 1 = .ok (.istore_n 1, 1) := by decide +kernel
theorem dX1_lower_2 : decode cX1_lower 2 = .ok (.iload_n 1, 1) := by decide +kernel
theorem dX1_lower_3 : decode cX1_lower 3 = .ok (.bipush 48, 2) := by decide +kernel
theorem dX1_lower_5 : decode cX1_lower 5 = .ok (.if_icmp .ge 56, 3) := by decide +kernel
theorem dX1_lower_8 : decode cX1_lower 8 = .ok (.aload_n 0, 1) := by decide +kernel
theorem dX1_lower_9 : decode cX1_lower 9 = .ok (.getfield 9, 3) := by decide +kernel
theorem dX1_lower_12 : decode cX1_lower 12 = .ok (.lconst 1, 1) := by decide +kernel
theorem dX1_lower_13 : decode cX1_lower 13 = .ok (.land, 1) := by decide +kernel
theorem dX1_lower_14 : decode cX1_lower 14 = .ok (.lconst 1, 1) := by decide +kernel
theorem dX1_lower_15 : decode cX1_lower 15 = .ok (.lcmp, 1) := by decide +kernel
theorem dX1_lower_16 : decode cX1_lower 16 = .ok (.ifCond .eq 14, 3) := by decide +kernel
theorem dX1_lower_19 : decode cX1_lower 19 = .ok (.aload_n 0, 1) := by decide +kernel
theorem dX1_lower_20 : decode cX1_lower 20 = .ok (.getfield 15, 3) := by decide +kernel
theorem dX1_lower_23 : decode cX1_lower 23 = .ok (.lconst 1, 1) := by decide +kernel
theorem dX1_lower_24 : decode cX1_lower 24 = .ok (.land, 1) := by decide +kernel
theorem dX1_lower_25 : decode cX1_lower 25 = .ok (.lconst 1, 1) := by decide +kernel
theorem dX1_lower_26 : decode cX1_lower 26 = .ok (.lcmp, 1) := by decide +kernel
theorem dX1_lower_27 : decode cX1_lower 27 = .ok (.ifCond .ne 4, 3) := by decide +kernel
theorem dX1_lower_30 : decode cX1_lower 30 = .ok (.return_, 1) := by decide +kernel
theorem dX1_lower_31 : decode cX1_lower 31 = .ok (.aload_n 0, 1) := by decide +kernel
theorem dX1_lower_32 : decode cX1_lower 32 = .ok (.dup, 1) := by decide +kernel
theorem dX1_lower_33 : decode cX1_lower 33 = .ok (.getfield 9, 3) := by decide +kernel
theorem dX1_lower_36 : decode cX1_lower 36 = .ok (.ldc2_w 79, 3) := by decide +kernel
theorem dX1_lower_39 : decode cX1_lower 39 = .ok (.ldiv, 1) := by decide +kernel
theorem dX1_lower_40 : decode cX1_lower 40 = .ok (.putfield 9, 3) := by decide +kernel
theorem dX1_lower_43 : decode cX1_lower 43 = .ok (.aload_n 0, 1) := by decide +kernel
theorem dX1_lower_44 : decode cX1_lower 44 = .ok (.dup, 1) := by decide +kernel
theorem dX1_lower_45 : decode cX1_lower 45 = .ok (.getfield 15, 3) := by decide +kernel
theorem dX1_lower_48 : decode cX1_lower 48 = .ok (.ldc2_w 79, 3) := by decide +kernel
theorem dX1_lower_51 : decode cX1_lower 51 = .ok (.ldiv, 1) := by decide +kernel
theorem dX1_lower_52 : decode cX1_lower 52 = .ok (.putfield 15, 3) := by decide +kernel
theorem dX1_lower_55 : decode cX1_lower 55 = .ok (.iinc 1 1, 3) := by decide +kernel
theorem dX1_lower_58 : decode cX1_lower 58 = .ok (.goto (-56), 3) := by decide +kernel
theorem dX1_lower_61 : decode cX1_lower 61 = .ok (.return_, 1) := by decide +kernel
theorem dX2_init_0 : decode cX2_init 0 = .ok (.aload_n 0, 1) := by decide +kernel
theorem dX2_init_1 : decode cX2_init 1 = .ok (.invokespecial 3, 3) := by decide +kernel
theorem dX2_init_4 : decode cX2_init 4 = .ok (.aload_n 0, 1) := by decide +kernel
theorem dX2_init_5 : decode cX2_init 5 = .ok (.bipush 8, 2) := by decide +kernel
theorem dX2_init_7 : decode cX2_init 7 = .ok (.newarray .int, 2) := by decide +kernel
theorem dX2_init_9 : decode cX2_init 9 = .ok (.putfield 9, 3) := by decide +kernel
theorem dX2_init_12 : decode cX2_init 12 = .ok (.aload_n 0, 1) := by decide +kernel
theorem dX2_init_13 : decode cX2_init 13 = .ok (.bipush 8, 2) := by decide +kernel
theorem dX2_init_15 : decode cX2_init 15 = .ok (.newarray .int, 2) := by decide +kernel
theorem dX2_init_17 : decode cX2_init 17 = .ok (.putfield 15, 3) := by decide +kernel
theorem dX2_init_20 : decode cX2_init 20 = .ok (.aload_n 0, 1) := by decide +kernel
theorem dX2_init_21 : decode cX2_init 21 = .ok (.iconst 0, 1) := by decide +kernel
theorem dX2_init_22 : decode cX2_init 22 = .ok (.putfield 18, 3) := by decide +kernel
theorem dX2_init_25 : decode cX2_init 25 = .ok (.aload_n 0, 1) := by decide +kernel
theorem dX2_init_26 : decode cX2_init 26 = .ok (.iconst 1, 1) := by decide +kernel
theorem dX2_init_27 : decode cX2_init 27 = .ok (.putfield 22, 3) := by decide +kernel
theorem dX2_init_30 : decode cX2_init 30 = .ok (.aload_n 0, 1) := by decide +kernel
theorem dX2_init_31 : decode cX2_init 31 = .ok (.sipush 4096, 3) := by decide +kernel
theorem dX2_init_34 : decode cX2_init 34 = .ok (.newarray .int, 2) := by decide +kernel
theorem dX2_init_36 : decode cX2_init 36 = .ok (.putfield 26, 3) := by decide +kernel
theorem dX2_init_39 : decode cX2_init 39 = .ok (.aload_n 0, 1) := by decide +kernel
theorem dX2_init_40 : decode cX2_init 40 = .ok (.iconst 0, 1) := by decide +kernel
theorem dX2_init_41 : decode cX2_init 41 = .ok (.putfield 29, 3) := by decide +kernel
theorem dX2_init_44 : decode cX2_init 44 = .ok (.aload_n 0, 1) := by decide +kernel
theorem dX2_init_45 : decode cX2_init 45 = .ok (.iconst 0, 1) := by decide +kernel
theorem dX2_init_46 : decode cX2_init 46 = .ok (.putfield 32, 3) := by decide +kernel
theorem dX2_init_49 : decode cX2_init 49 = .ok (.aload_n 0, 1) := by decide +kernel
theorem dX2_init_50 : decode cX2_init 50 = .ok (.sipush 4096, 3) := by decide +kernel
theorem dX2_init_53 : decode cX2_init 53 = .ok (.newarray .int, 2) := by decide +kernel
theorem dX2_init_55 : decode cX2_init 55 = .ok (.putfield 35, 3) := by decide +kernel
theorem dX2_init_58 : decode cX2_init 58 = .ok (.aload_n 0, 1) := by decide +kernel
theorem dX2_init_59 : decode cX2_init 59 = .ok (.bipush 8, 2) := by decide +kernel
theorem dX2_init_61 : decode cX2_init 61 = .ok (.newarray .int, 2) := by decide +kernel
theorem dX2_init_63 : decode cX2_init 63 = .ok (.putfield 38, 3) := by decide +kernel
theorem dX2_init_66 : decode cX2_init 66 = .ok (.aload_n 0, 1) := by decide +kernel
theorem dX2_init_67 : decode cX2_init 67 = .ok (.iconst (-1), 1) := by decide +kernel
theorem dX2_init_68 : decode cX2_init 68 = .ok (.putfield 41, 3) := by decide +kernel
theorem dX2_init_71 : decode cX2_init 71 = .ok (.return_, 1) := by decide +kernel
theorem dX2_isFull_0 : decode cX2_isFull 0 = .ok (.aload_n 0, 1) := by decide +kernel
theorem dX2_isFull_1 : decode cX2_isFull 1 = .ok (.getfield 18, 3) := by decide +kernel
theorem dX2_isFull_4 : decode cX2_isFull 4 = .ok (.bipush 8, 2) := by decide +kernel
theorem dX2_isFull_6 : decode cX2_isFull 6 = .ok (.if_icmp .lt 7, 3) := by decide +kernel
theorem dX2_isFull_9 : decode cX2_isFull 9 = .ok (.iconst 1, 1) := by decide +kernel
theorem dX2_isFull_10 : decode cX2_isFull 10 = .ok (.goto 4, 3) := by decide +kernel
theorem dX2_isFull_13 : decode cX2_isFull 13 = .ok (.iconst 0, 1) := by decide +kernel
theorem dX2_isFull_14 : decode cX2_isFull 14 = .ok (.ireturn, 1) := by decide +kernel
theorem dX2_append_0 : decode cX2_append 0 = .ok (.aload_n 0, 1) := by decide +kernel
theorem dX2_append_1 : decode cX2_append 1 = .ok (.getfield 18, 3) := by decide +kernel
theorem dX2_append_4 : decode cX2_append 4 = .ok (.bipush 8, 2) := by decide +kernel
theorem dX2_append_6 : decode cX2_append 6 = .ok (.if_icmp .ge 38, 3) := by decide +kernel
theorem dX2_append_9 : decode cX2_append 9 = .ok (.aload_n 0, 1) := by decide +kernel
theorem dX2_append_10 : decode cX2_append 10 = .ok (.getfield 9, 3) := by decide +kernel
theorem dX2_append_13 : decode cX2_append 13 = .ok (.aload_n 0, 1) := by decide +kernel
theorem dX2_append_14 : decode cX2_append 14 = .ok (.getfield 18, 3) := by decide +kernel
theorem dX2_append_17 : decode cX2_append 17 = .ok (.iload_n 1, 1) := by decide +kernel
theorem dX2_append_18 : decode cX2_append 18 = .ok (.iastore, 1) := by decide +kernel
theorem dX2_append_19 : decode cX2_append 19 = .ok (.aload_n 0, 1) := by decide +kernel
theorem dX2_append_20 : decode cX2_append 20 = .ok (.getfield 15, 3) := by decide +kernel
theorem dX2_append_23 : decode cX2_append 23 = .ok (.aload_n 0, 1) := by decide +kernel
theorem dX2_append_24 : decode cX2_append 24 = .ok (.getfield 18, 3) := by decide +kernel
theorem dX2_append_27 : decode cX2_append 27 = .ok (.iload_n 2, 1) := by decide +kernel
theorem dX2_append_28 : decode cX2_append 28 = .ok (.iastore, 1) := by decide +kernel
theorem dX2_append_29 : decode cX2_append 29 = .ok (.aload_n 0, 1) := by decide +kernel
theorem dX2_append_30 : decode cX2_append 30 = .ok (.dup, 1) := by decide +kernel
theorem dX2_append_31 : decode cX2_append 31 = .ok (.getfield 18, 3) := by decide +kernel
theorem dX2_append_34 : decode cX2_append 34 = .ok (.iconst 1, 1) := by decide +kernel
theorem dX2_append_35 : decode cX2_append 35 = .ok (.iadd, 1) := by decide +kernel
theorem dX2_append_36 : decode cX2_append 36 = .ok (.putfield 18, 3) := by decide +kernel
theorem dX2_append_39 : decode cX2_append 39 = .ok (.aload_n 0, 1) := by decide +kernel
theorem dX2_append_40 : decode cX2_append 40 = .ok (.iconst 1, 1) := by decide +kernel
theorem dX2_append_41 : decode cX2_append 41 = .ok (.putfield 22, 3) := by decide +kernel
theorem dX2_append_44 : decode cX2_append 44 = .ok (.return_, 1) := by decide +kernel
theorem dX2_clear_0 : decode cX2_clear 0 = .ok (.aload_n 0, 1) := by decide +kernel
theorem dX2_clear_1 : decode cX2_clear 1 = .ok (.iconst 0, 1) := by decide +kernel
theorem dX2_clear_2 : decode cX2_clear 2 = .ok (.putfield 18, 3) := by decide +kernel
theorem dX2_clear_5 : decode cX2_clear 5 = .ok (.aload_n 0, 1) := by decide +kernel
theorem dX2_clear_6 : decode cX2_clear 6 = .ok (.iconst 1, 1) := by decide +kernel
theorem dX2_clear_7 : decode cX2_clear 7 = .ok (.putfield 22, 3) := by decide +kernel
theorem dX2_clear_10 : decode cX2_clear 10 = .ok (.return_, 1) := by decide +kernel
theorem dX2_leastFitting_0 : decode cX2_leastFitting 0 = .ok (.aload_n 0, 1) := by decide +kernel
theorem dX2_leastFitting_1 : decode cX2_leastFitting 1 = .ok (.getfield 29, 3) := by decide +kernel
theorem dX2_leastFitting_4 : decode cX2_leastFitting 4 = .ok (.ifCond .ne 7, 3) := by decide +kernel
theorem dX2_leastFitting_7 : decode cX2_leastFitting 7 = .ok (.iconst (-1), 1) := by decide +kernel
theorem dX2_leastFitting_8 : decode cX2_leastFitting 8 = .ok (.goto 9, 3) := by decide +kernel
theorem dX2_leastFitting_11 : decode cX2_leastFitting 11 = .ok (.aload_n 0, 1) := by decide +kernel
theorem dX2_leastFitting_12 : decode cX2_leastFitting 12 = .ok (.getfield 26, 3) := by decide +kernel
theorem dX2_leastFitting_15 : decode cX2_leastFitting 15 = .ok (.iconst 0, 1) := by decide +kernel
theorem dX2_leastFitting_16 : decode cX2_leastFitting 16 = .ok (.iaload, 1) := by decide +kernel
theorem dX2_leastFitting_17 : decode cX2_leastFitting 17 = .ok (.ireturn, 1) := by decide +kernel
theorem dX2_sift_0 : decode cX2_sift 0 = .ok (.aload_n 0, 1) := by decide +kernel
theorem dX2_sift_1 : decode cX2_sift 1 = .ok (.getfield 22, 3) := by decide +kernel
theorem dX2_sift_4 : decode cX2_sift 4 = .ok (.ifCond .ne 4, 3) := by decide +kernel
theorem dX2_sift_7 : decode cX2_sift 7 = .ok (.return_, 1) := by decide +kernel
theorem dX2_sift_8 : decode cX2_sift 8 = .ok (.aload_n 0, 1) := by decide +kernel
theorem dX2_sift_9 : decode cX2_sift 9 = .ok (.iconst 0, 1) := by decide +kernel
theorem dX2_sift_10 : decode cX2_sift 10 = .ok (.putfield 22, 3) := by decide +kernel
theorem dX2_sift_13 : decode cX2_sift 13 = .ok (.aload_n 0, 1) := by decide +kernel
theorem dX2_sift_14 : decode cX2_sift 14 = .ok (.iconst (-1), 1) := by decide +kernel
theorem dX2_sift_15 : decode cX2_sift 15 = .ok (.putfield 41, 3) := by decide +kernel
theorem dX2_sift_18 : decode cX2_sift 18 = .ok (.aload_n 0, 1) := by decide +kernel
theorem dX2_sift_19 : decode cX2_sift 19 = .ok (.iconst 0, 1) := by decide +kernel
theorem dX2_sift_20 : decode cX2_sift 20 = .ok (.putfield 29, 3) := by decide +kernel
theorem dX2_sift_23 : decode cX2_sift 23 = .ok (.aload_n 1, 1) := by decide +kernel
theorem dX2_sift_24 : decode cX2_sift 24 = .ok (.invokevirtual 44, 3) := by decide +kernel
theorem dX2_sift_27 : decode cX2_sift 27 = .ok (.istore_n 2, 1) := by decide +kernel
theorem dX2_sift_28 : decode cX2_sift 28 = .ok (.aload_n 0, 1) := by decide +kernel
theorem dX2_sift_29 : decode cX2_sift 29 = .ok (.iload_n 2, 1) := by decide +kernel
theorem dX2_sift_30 : decode cX2_sift 30 = .ok (.putfield 32, 3) := by decide +kernel
theorem dX2_sift_33 : decode cX2_sift 33 = .ok (.iconst 0, 1) := by decide +kernel
theorem dX2_sift_34 : decode cX2_sift 34 = .ok (.istore_n 3, 1) := by decide +kernel
theorem dX2_sift_35 : decode cX2_sift 35 = .ok (.iconst 0, 1) := by decide +kernel
theorem dX2_sift_36 : decode cX2_sift 36 = .ok (.istore 4, 2) := by decide +kernel
theorem dX2_sift_38 : decode cX2_sift 38 = .ok (.iload 4, 2) := by decide +kernel
theorem dX2_sift_40 : decode cX2_sift 40 = .ok (.aload_n 0, 1) := by decide +kernel
theorem dX2_sift_41 : decode cX2_sift 41 = .ok (.getfield 18, 3) := by decide +kernel
theorem dX2_sift_44 : decode cX2_sift 44 = .ok (.if_icmp .ge 31, 3) := by decide +kernel
theorem dX2_sift_47 : decode cX2_sift 47 = .ok (.iload_n 3, 1) := by decide +kernel
theorem dX2_sift_48 : decode cX2_sift 48 = .ok (.aload_n 1, 1) := by decide +kernel
theorem dX2_sift_49 : decode cX2_sift 49 = .ok (.iload_n 2, 1) := by decide +kernel
theorem dX2_sift_50 : decode cX2_sift 50 = .ok (.aload_n 0, 1) := by decide +kernel
theorem dX2_sift_51 : decode cX2_sift 51 = .ok (.getfield 9, 3) := by decide +kernel
theorem dX2_sift_54 : decode cX2_sift 54 = .ok (.iload 4, 2) := by decide +kernel
theorem dX2_sift_56 : decode cX2_sift 56 = .ok (.iaload, 1) := by decide +kernel
theorem dX2_sift_57 : decode cX2_sift 57 = .ok (.aload_n 0, 1) := by decide +kernel
theorem dX2_sift_58 : decode cX2_sift 58 = .ok (.getfield 15, 3) := by decide +kernel
theorem dX2_sift_61 : decode cX2_sift 61 = .ok (.iload 4, 2) := by decide +kernel
theorem dX2_sift_63 : decode cX2_sift 63 = .ok (.iaload, 1) := by decide +kernel
theorem dX2_sift_64 : decode cX2_sift 64 = .ok (.invokevirtual 50, 3) := by decide +kernel
theorem dX2_sift_67 : decode cX2_sift 67 = .ok (.ior, 1) := by decide +kernel
theorem dX2_sift_68 : decode cX2_sift 68 = .ok (.istore_n 3, 1) := by decide +kernel
theorem dX2_sift_69 : decode cX2_sift 69 = .ok (.iinc 4 1, 3) := by decide +kernel
theorem dX2_sift_72 : decode cX2_sift 72 = .ok (.goto (-34), 3) := by decide +kernel
theorem dX2_sift_75 : decode cX2_sift 75 = .ok (.iconst 0, 1) := by decide +kernel
theorem dX2_sift_76 : decode cX2_sift 76 = .ok (.istore 4, 2) := by decide +kernel
theorem dX2_sift_78 : decode cX2_sift 78 = .ok (.iload 4, 2) := by decide +kernel
theorem dX2_sift_80 : decode cX2_sift 80 = .ok (.iload_n 2, 1) := by decide +kernel
theorem dX2_sift_81 : decode cX2_sift 81 = .ok (.if_icmp .gt 58, 3) := by decide +kernel
theorem dX2_sift_84 : decode cX2_sift 84 = .ok (.iload 4, 2) := by decide +kernel
theorem dX2_sift_86 : decode cX2_sift 86 = .ok (.iload_n 3, 1) := by decide +kernel
theorem dX2_sift_87 : decode cX2_sift 87 = .ok (.iand, 1) := by decide +kernel
theorem dX2_sift_88 : decode cX2_sift 88 = .ok (.ifCond .ne 45, 3) := by decide +kernel
theorem dX2_sift_91 : decode cX2_sift 91 = .ok (.aload_n 0, 1) := by decide +kernel
theorem dX2_sift_92 : decode cX2_sift 92 = .ok (.aload_n 1, 1) := by decide +kernel
theorem dX2_sift_93 : decode cX2_sift 93 = .ok (.iload 4, 2) := by decide +kernel
theorem dX2_sift_95 : decode cX2_sift 95 = .ok (.invokevirtual 54, 3) := by decide +kernel
theorem dX2_sift_98 : decode cX2_sift 98 = .ok (.ifCond .eq 35, 3) := by decide +kernel
theorem dX2_sift_101 : decode cX2_sift 101 = .ok (.aload_n 0, 1) := by decide +kernel
theorem dX2_sift_102 : decode cX2_sift 102 = .ok (.getfield 26, 3) := by decide +kernel
theorem dX2_sift_105 : decode cX2_sift 105 = .ok (.aload_n 0, 1) := by decide +kernel
theorem dX2_sift_106 : decode cX2_sift 106 = .ok (.getfield 29, 3) := by decide +kernel
theorem dX2_sift_109 : decode cX2_sift 109 = .ok (.iload 4, 2) := by decide +kernel
theorem dX2_sift_111 : decode cX2_sift 111 = .ok (.iastore, 1) := by decide +kernel
theorem dX2_sift_112 : decode cX2_sift 112 = .ok (.aload_n 0, 1) := by decide +kernel
theorem dX2_sift_113 : decode cX2_sift 113 = .ok (.dup, 1) := by decide +kernel
theorem dX2_sift_114 : decode cX2_sift 114 = .ok (.getfield 29, 3) := by decide +kernel
theorem dX2_sift_117 : decode cX2_sift 117 = .ok (.iconst 1, 1) := by decide +kernel
theorem dX2_sift_118 : decode cX2_sift 118 = .ok (.iadd, 1) := by decide +kernel
theorem dX2_sift_119 : decode cX2_sift 119 = .ok (.putfield 29, 3) := by decide +kernel
theorem dX2_sift_122 : decode cX2_sift 122 = .ok (.aload_n 0, 1) := by decide +kernel
theorem dX2_sift_123 : decode cX2_sift 123 = .ok (.dup, 1) := by decide +kernel
theorem dX2_sift_124 : decode cX2_sift 124 = .ok (.getfield 32, 3) := by decide +kernel
theorem dX2_sift_127 : decode cX2_sift 127 = .ok (.iload 4, 2) := by decide +kernel
theorem dX2_sift_129 : decode cX2_sift 129 = .ok (.iand, 1) := by decide +kernel
theorem dX2_sift_130 : decode cX2_sift 130 = .ok (.putfield 32, 3) := by decide +kernel
theorem dX2_sift_133 : decode cX2_sift 133 = .ok (.iinc 4 1, 3) := by decide +kernel
theorem dX2_sift_136 : decode cX2_sift 136 = .ok (.goto (-58), 3) := by decide +kernel
theorem dX2_sift_139 : decode cX2_sift 139 = .ok (.aload_n 0, 1) := by decide +kernel
theorem dX2_sift_140 : decode cX2_sift 140 = .ok (.getfield 29, 3) := by decide +kernel
theorem dX2_sift_143 : decode cX2_sift 143 = .ok (.ifCond .ne 8, 3) := by decide +kernel
theorem dX2_sift_146 : decode cX2_sift 146 = .ok (.aload_n 0, 1) := by decide +kernel
theorem dX2_sift_147 : decode cX2_sift 147 = .ok (.iconst 0, 1) := by decide +kernel
theorem dX2_sift_148 : decode cX2_sift 148 = .ok (.putfield 32, 3) := by decide +kernel
theorem dX2_sift_151 : decode cX2_sift 151 = .ok (.return_, 1) := by decide +kernel
theorem dX2_comesOut_0 : decode cX2_comesOut 0 = .ok (.iconst 0, 1) := by decide +kernel
theorem dX2_comesOut_1 : decode cX2_comesOut 1 = .ok (.istore_n 3, 1) := by decide +kernel
theorem dX2_comesOut_2 : decode cX2_comesOut 2 = .ok (.iload_n 3, 1) := by decide +kernel
theorem dX2_comesOut_3 : decode cX2_comesOut 3 = .ok (.aload_n 0, 1) := by decide +kernel
theorem dX2_comesOut_4 : decode cX2_comesOut 4 = .ok (.getfield 18, 3) := by decide +kernel
theorem dX2_comesOut_7 : decode cX2_comesOut 7 = .ok (.if_icmp .ge 31, 3) := by decide +kernel
theorem dX2_comesOut_10 : decode cX2_comesOut 10 = .ok (.aload_n 1, 1) := by decide +kernel
theorem dX2_comesOut_11 : decode cX2_comesOut 11 = .ok (.iload_n 2, 1) := by decide +kernel
theorem dX2_comesOut_12 : decode cX2_comesOut 12 = .ok (.aload_n 0, 1) := by decide +kernel
theorem dX2_comesOut_13 : decode cX2_comesOut 13 = .ok (.getfield 9, 3) := by decide +kernel
theorem dX2_comesOut_16 : decode cX2_comesOut 16 = .ok (.iload_n 3, 1) := by decide +kernel
theorem dX2_comesOut_17 : decode cX2_comesOut 17 = .ok (.iaload, 1) := by decide +kernel
theorem dX2_comesOut_18 : decode cX2_comesOut 18 = .ok (.invokevirtual 58, 3) := by decide +kernel
theorem dX2_comesOut_21 : decode cX2_comesOut 21 = .ok (.aload_n 0, 1) := by decide +kernel
theorem dX2_comesOut_22 : decode cX2_comesOut 22 = .ok (.getfield 15, 3) := by decide +kernel
theorem dX2_comesOut_25 : decode cX2_comesOut 25 = .ok (.iload_n 3, 1) := by decide +kernel
theorem dX2_comesOut_26 : decode cX2_comesOut 26 = .ok (.iaload, 1) := by decide +kernel
theorem dX2_comesOut_27 : decode cX2_comesOut 27 = .ok (.if_icmp .eq 5, 3) := by decide +kernel
theorem dX2_comesOut_30 : decode cX2_comesOut 30 = .ok (.iconst 0, 1) := by decide +kernel
theorem dX2_comesOut_31 : decode cX2_comesOut 31 = .ok (.ireturn, 1) := by decide +kernel
theorem dX2_comesOut_32 : decode cX2_comesOut 32 = .ok (.iinc 3 1, 3) := by decide +kernel
theorem dX2_comesOut_35 : decode cX2_comesOut 35 = .ok (.goto (-33), 3) := by decide +kernel
theorem dX2_comesOut_38 : decode cX2_comesOut 38 = .ok (.iconst 1, 1) := by decide +kernel
theorem dX2_comesOut_39 : decode cX2_comesOut 39 = .ok (.ireturn, 1) := by decide +kernel
theorem dX2_hourToWatch_0 : decode cX2_hourToWatch 0 = .ok (.aload_n 0, 1) := by decide +kernel
theorem dX2_hourToWatch_1 : decode cX2_hourToWatch 1 = .ok (.getfield 41, 3) := by decide +kernel
theorem dX2_hourToWatch_4 : decode cX2_hourToWatch 4 = .ok (.iconst (-1), 1) := by decide +kernel
theorem dX2_hourToWatch_5 : decode cX2_hourToWatch 5 = .ok (.if_icmp .eq 8, 3) := by decide +kernel
theorem dX2_hourToWatch_8 : decode cX2_hourToWatch 8 = .ok (.aload_n 0, 1) := by decide +kernel
theorem dX2_hourToWatch_9 : decode cX2_hourToWatch 9 = .ok (.getfield 41, 3) := by decide +kernel
theorem dX2_hourToWatch_12 : decode cX2_hourToWatch 12 = .ok (.ireturn, 1) := by decide +kernel
theorem dX2_hourToWatch_13 : decode cX2_hourToWatch 13 = .ok (.iconst 0, 1) := by decide +kernel
theorem dX2_hourToWatch_14 : decode cX2_hourToWatch 14 = .ok (.istore_n 2, 1) := by decide +kernel
theorem dX2_hourToWatch_15 : decode cX2_hourToWatch 15 = .ok (.iconst 0, 1) := by decide +kernel
theorem dX2_hourToWatch_16 : decode cX2_hourToWatch 16 = .ok (.istore_n 3, 1) := by decide +kernel
theorem dX2_hourToWatch_17 : decode cX2_hourToWatch 17 = .ok (.iload_n 3, 1) := by decide +kernel
theorem dX2_hourToWatch_18 : decode cX2_hourToWatch 18 = .ok (.bipush 24, 2) := by decide +kernel
theorem dX2_hourToWatch_20 : decode cX2_hourToWatch 20 = .ok (.if_icmp .ge 47, 3) := by decide +kernel
theorem dX2_hourToWatch_23 : decode cX2_hourToWatch 23 = .ok (.aload_n 1, 1) := by decide +kernel
theorem dX2_hourToWatch_24 : decode cX2_hourToWatch 24 = .ok (.iload_n 3, 1) := by decide +kernel
theorem dX2_hourToWatch_25 : decode cX2_hourToWatch 25 = .ok (.invokevirtual 62, 3) := by decide +kernel
theorem dX2_hourToWatch_28 : decode cX2_hourToWatch 28 = .ok (.ifCond .ne 33, 3) := by decide +kernel
theorem dX2_hourToWatch_31 : decode cX2_hourToWatch 31 = .ok (.aload_n 0, 1) := by decide +kernel
theorem dX2_hourToWatch_32 : decode cX2_hourToWatch 32 = .ok (.aload_n 1, 1) := by decide +kernel
theorem dX2_hourToWatch_33 : decode cX2_hourToWatch 33 = .ok (.iload_n 3, 1) := by decide +kernel
theorem dX2_hourToWatch_34 : decode cX2_hourToWatch 34 = .ok (.invokevirtual 66, 3) := by decide +kernel
theorem dX2_hourToWatch_37 : decode cX2_hourToWatch 37 = .ok (.istore 4, 2) := by decide +kernel
theorem dX2_hourToWatch_39 : decode cX2_hourToWatch 39 = .ok (.aload_n 0, 1) := by decide +kernel
theorem dX2_hourToWatch_40 : decode cX2_hourToWatch 40 = .ok (.getfield 41, 3) := by decide +kernel
theorem dX2_hourToWatch_43 : decode cX2_hourToWatch 43 = .ok (.iconst (-1), 1) := by decide +kernel
theorem dX2_hourToWatch_44 : decode cX2_hourToWatch 44 = .ok (.if_icmp .eq 9, 3) := by decide +kernel
theorem dX2_hourToWatch_47 : decode cX2_hourToWatch 47 = .ok (.iload 4, 2) := by decide +kernel
theorem dX2_hourToWatch_49 : decode cX2_hourToWatch 49 = .ok (.iload_n 2, 1) := by decide +kernel
theorem dX2_hourToWatch_50 : decode cX2_hourToWatch 50 = .ok (.if_icmp .ge 11, 3) := by decide +kernel
theorem dX2_hourToWatch_53 : decode cX2_hourToWatch 53 = .ok (.aload_n 0, 1) := by decide +kernel
theorem dX2_hourToWatch_54 : decode cX2_hourToWatch 54 = .ok (.iload_n 3, 1) := by decide +kernel
theorem dX2_hourToWatch_55 : decode cX2_hourToWatch 55 = .ok (.putfield 41, 3) := by decide +kernel
theorem dX2_hourToWatch_58 : decode cX2_hourToWatch 58 = .ok (.iload 4, 2) := by decide +kernel
theorem dX2_hourToWatch_60 : decode cX2_hourToWatch 60 = .ok (.istore_n 2, 1) := by decide +kernel
theorem dX2_hourToWatch_61 : decode cX2_hourToWatch 61 = .ok (.iinc 3 1, 3) := by decide +kernel
theorem dX2_hourToWatch_64 : decode cX2_hourToWatch 64 = .ok (.goto (-47), 3) := by decide +kernel
theorem dX2_hourToWatch_67 : decode cX2_hourToWatch 67 = .ok (.aload_n 0, 1) := by decide +kernel
theorem dX2_hourToWatch_68 : decode cX2_hourToWatch 68 = .ok (.getfield 41, 3) := by decide +kernel
theorem dX2_hourToWatch_71 : decode cX2_hourToWatch 71 = .ok (.ireturn, 1) := by decide +kernel
theorem dX2_mostAlike_0 : decode cX2_mostAlike 0 = .ok (.aload_n 1, 1) := by decide +kernel
theorem dX2_mostAlike_1 : decode cX2_mostAlike 1 = .ok (.iload_n 2, 1) := by decide +kernel
theorem dX2_mostAlike_2 : decode cX2_mostAlike 2 = .ok (.invokevirtual 70, 3) := by decide +kernel
theorem dX2_mostAlike_5 : decode cX2_mostAlike 5 = .ok (.istore_n 3, 1) := by decide +kernel
theorem dX2_mostAlike_6 : decode cX2_mostAlike 6 = .ok (.iconst 0, 1) := by decide +kernel
theorem dX2_mostAlike_7 : decode cX2_mostAlike 7 = .ok (.istore 4, 2) := by decide +kernel
theorem dX2_mostAlike_9 : decode cX2_mostAlike 9 = .ok (.iload 4, 2) := by decide +kernel
theorem dX2_mostAlike_11 : decode cX2_mostAlike 11 = .ok (.aload_n 0, 1) := by decide +kernel
theorem dX2_mostAlike_12 : decode cX2_mostAlike 12 = .ok (.getfield 29, 3) := by decide +kernel
theorem dX2_mostAlike_15 : decode cX2_mostAlike 15 = .ok (.if_icmp .ge 27, 3) := by decide +kernel
theorem dX2_mostAlike_18 : decode cX2_mostAlike 18 = .ok (.aload_n 0, 1) := by decide +kernel
theorem dX2_mostAlike_19 : decode cX2_mostAlike 19 = .ok (.getfield 35, 3) := by decide +kernel
theorem dX2_mostAlike_22 : decode cX2_mostAlike 22 = .ok (.aload_n 0, 1) := by decide +kernel
theorem dX2_mostAlike_23 : decode cX2_mostAlike 23 = .ok (.getfield 26, 3) := by decide +kernel
theorem dX2_mostAlike_26 : decode cX2_mostAlike 26 = .ok (.iload 4, 2) := by decide +kernel
theorem dX2_mostAlike_28 : decode cX2_mostAlike 28 = .ok (.iaload, 1) := by decide +kernel
theorem dX2_mostAlike_29 : decode cX2_mostAlike 29 = .ok (.iload_n 3, 1) := by decide +kernel
theorem dX2_mostAlike_30 : decode cX2_mostAlike 30 = .ok (.iand, 1) := by decide +kernel
theorem dX2_mostAlike_31 : decode cX2_mostAlike 31 = .ok (.dup2, 1) := by decide +kernel
theorem dX2_mostAlike_32 : decode cX2_mostAlike 32 = .ok (.iaload, 1) := by decide +kernel
theorem dX2_mostAlike_33 : decode cX2_mostAlike 33 = .ok (.iconst 1, 1) := by decide +kernel
theorem dX2_mostAlike_34 : decode cX2_mostAlike 34 = .ok (.iadd, 1) := by decide +kernel
theorem dX2_mostAlike_35 : decode cX2_mostAlike 35 = .ok (.iastore, 1) := by decide +kernel
theorem dX2_mostAlike_36 : decode cX2_mostAlike 36 = .ok (.iinc 4 1, 3) := by decide +kernel
theorem dX2_mostAlike_39 : decode cX2_mostAlike 39 = .ok (.goto (-30), 3) := by decide +kernel
theorem dX2_mostAlike_42 : decode cX2_mostAlike 42 = .ok (.aload_n 0, 1) := by decide +kernel
theorem dX2_mostAlike_43 : decode cX2_mostAlike 43 = .ok (.getfield 38, 3) := by decide +kernel
theorem dX2_mostAlike_46 : decode cX2_mostAlike 46 = .ok (.iconst 0, 1) := by decide +kernel
theorem dX2_mostAlike_47 : decode cX2_mostAlike 47 = .ok (.invokestatic 74, 3) := by decide +kernel
theorem dX2_mostAlike_50 : decode cX2_mostAlike 50 = .ok (.iconst 0, 1) := by decide +kernel
theorem dX2_mostAlike_51 : decode cX2_mostAlike 51 = .ok (.istore 4, 2) := by decide +kernel
theorem dX2_mostAlike_53 : decode cX2_mostAlike 53 = .ok (.iconst 0, 1) := by decide +kernel
theorem dX2_mostAlike_54 : decode cX2_mostAlike 54 = .ok (.istore 5, 2) := by decide +kernel
theorem dX2_mostAlike_56 : decode cX2_mostAlike 56 = .ok (.iconst 1, 1) := by decide +kernel
theorem dX2_mostAlike_57 : decode cX2_mostAlike 57 = .ok (.iload_n 3, 1) := by decide +kernel
theorem dX2_mostAlike_58 : decode cX2_mostAlike 58 = .ok (.invokestatic 80, 3) := by decide +kernel
theorem dX2_mostAlike_61 : decode cX2_mostAlike 61 = .ok (.ishl, 1) := by decide +kernel
theorem dX2_mostAlike_62 : decode cX2_mostAlike 62 = .ok (.istore 6, 2) := by decide +kernel
theorem dX2_mostAlike_64 : decode cX2_mostAlike 64 = .ok (.iconst 0, 1) := by decide +kernel
theorem dX2_mostAlike_65 : decode cX2_mostAlike 65 = .ok (.istore 7, 2) := by decide +kernel
theorem dX2_mostAlike_67 : decode cX2_mostAlike 67 = .ok (.iload 7, 2) := by decide +kernel
theorem dX2_mostAlike_69 : decode cX2_mostAlike 69 = .ok (.iload 6, 2) := by decide +kernel
theorem dX2_mostAlike_71 : decode cX2_mostAlike 71 = .ok (.if_icmp .ge 77, 3) := by decide +kernel
theorem dX2_mostAlike_74 : decode cX2_mostAlike 74 = .ok (.aload_n 0, 1) := by decide +kernel
theorem dX2_mostAlike_75 : decode cX2_mostAlike 75 = .ok (.getfield 35, 3) := by decide +kernel
theorem dX2_mostAlike_78 : decode cX2_mostAlike 78 = .ok (.iload 5, 2) := by decide +kernel
theorem dX2_mostAlike_80 : decode cX2_mostAlike 80 = .ok (.iaload, 1) := by decide +kernel
theorem dX2_mostAlike_81 : decode cX2_mostAlike 81 = .ok (.ifCond .eq 53, 3) := by decide +kernel
theorem dX2_mostAlike_84 : decode cX2_mostAlike 84 = .ok (.aload_n 1, 1) := by decide +kernel
theorem dX2_mostAlike_85 : decode cX2_mostAlike 85 = .ok (.iload 5, 2) := by decide +kernel
theorem dX2_mostAlike_87 : decode cX2_mostAlike 87 = .ok (.iload_n 2, 1) := by decide +kernel
theorem dX2_mostAlike_88 : decode cX2_mostAlike 88 = .ok (.invokevirtual 58, 3) := by decide +kernel
theorem dX2_mostAlike_91 : decode cX2_mostAlike 91 = .ok (.iconst 1, 1) := by decide +kernel
theorem dX2_mostAlike_92 : decode cX2_mostAlike 92 = .ok (.iadd, 1) := by decide +kernel
theorem dX2_mostAlike_93 : decode cX2_mostAlike 93 = .ok (.istore 8, 2) := by decide +kernel
theorem dX2_mostAlike_95 : decode cX2_mostAlike 95 = .ok (.aload_n 0, 1) := by decide +kernel
theorem dX2_mostAlike_96 : decode cX2_mostAlike 96 = .ok (.getfield 38, 3) := by decide +kernel
theorem dX2_mostAlike_99 : decode cX2_mostAlike 99 = .ok (.iload 8, 2) := by decide +kernel
theorem dX2_mostAlike_101 : decode cX2_mostAlike 101 = .ok (.dup2, 1) := by decide +kernel
theorem dX2_mostAlike_102 : decode cX2_mostAlike 102 = .ok (.iaload, 1) := by decide +kernel
theorem dX2_mostAlike_103 : decode cX2_mostAlike 103 = .ok (.aload_n 0, 1) := by decide +kernel
theorem dX2_mostAlike_104 : decode cX2_mostAlike 104 = .ok (.getfield 35, 3) := by decide +kernel
theorem dX2_mostAlike_107 : decode cX2_mostAlike 107 = .ok (.iload 5, 2) := by decide +kernel
theorem dX2_mostAlike_109 : decode cX2_mostAlike 109 = .ok (.iaload, 1) := by decide +kernel
theorem dX2_mostAlike_110 : decode cX2_mostAlike 110 = .ok (.iadd, 1) := by decide +kernel
theorem dX2_mostAlike_111 : decode cX2_mostAlike 111 = .ok (.iastore, 1) := by decide +kernel
theorem dX2_mostAlike_112 : decode cX2_mostAlike 112 = .ok (.iload 4, 2) := by decide +kernel
theorem dX2_mostAlike_114 : decode cX2_mostAlike 114 = .ok (.aload_n 0, 1) := by decide +kernel
theorem dX2_mostAlike_115 : decode cX2_mostAlike 115 = .ok (.getfield 38, 3) := by decide +kernel
theorem dX2_mostAlike_118 : decode cX2_mostAlike 118 = .ok (.iload 8, 2) := by decide +kernel
theorem dX2_mostAlike_120 : decode cX2_mostAlike 120 = .ok (.iaload, 1) := by decide +kernel
theorem dX2_mostAlike_121 : decode cX2_mostAlike 121 = .ok (.invokestatic 85, 3) := by decide +kernel
theorem dX2_mostAlike_124 : decode cX2_mostAlike 124 = .ok (.istore 4, 2) := by decide +kernel
theorem dX2_mostAlike_126 : decode cX2_mostAlike 126 = .ok (.aload_n 0, 1) := by decide +kernel
theorem dX2_mostAlike_127 : decode cX2_mostAlike 127 = .ok (.getfield 35, 3) := by decide +kernel
theorem dX2_mostAlike_130 : decode cX2_mostAlike 130 = .ok (.iload 5, 2) := by decide +kernel
theorem dX2_mostAlike_132 : decode cX2_mostAlike 132 = .ok (.iconst 0, 1) := by decide +kernel
theorem dX2_mostAlike_133 : decode cX2_mostAlike 133 = .ok (.iastore, 1) := by decide +kernel
theorem dX2_mostAlike_134 : decode cX2_mostAlike 134 = .ok (.iload 5, 2) := by decide +kernel
theorem dX2_mostAlike_136 : decode cX2_mostAlike 136 = .ok (.iload_n 3, 1) := by decide +kernel
theorem dX2_mostAlike_137 : decode cX2_mostAlike 137 = .ok (.isub, 1) := by decide +kernel
theorem dX2_mostAlike_138 : decode cX2_mostAlike 138 = .ok (.iload_n 3, 1) := by decide +kernel
theorem dX2_mostAlike_139 : decode cX2_mostAlike 139 = .ok (.iand, 1) := by decide +kernel
theorem dX2_mostAlike_140 : decode cX2_mostAlike 140 = .ok (.istore 5, 2) := by decide +kernel
theorem dX2_mostAlike_142 : decode cX2_mostAlike 142 = .ok (.iinc 7 1, 3) := by decide +kernel
theorem dX2_mostAlike_145 : decode cX2_mostAlike 145 = .ok (.goto (-78), 3) := by decide +kernel
theorem dX2_mostAlike_148 : decode cX2_mostAlike 148 = .ok (.iload 4, 2) := by decide +kernel
theorem dX2_mostAlike_150 : decode cX2_mostAlike 150 = .ok (.ireturn, 1) := by decide +kernel
theorem dX3_init_0 : decode cX3_init 0 = .ok (.aload_n 0, 1) := by decide +kernel
theorem dX3_init_1 : decode cX3_init 1 = .ok (.invokespecial 3, 3) := by decide +kernel
theorem dX3_init_4 : decode cX3_init 4 = .ok (.aload_n 0, 1) := by decide +kernel
theorem dX3_init_5 : decode cX3_init 5 = .ok (.iconst 0, 1) := by decide +kernel
theorem dX3_init_6 : decode cX3_init 6 = .ok (.putfield 9, 3) := by decide +kernel
theorem dX3_init_9 : decode cX3_init 9 = .ok (.aload_n 0, 1) := by decide +kernel
theorem dX3_init_10 : decode cX3_init 10 = .ok (.iconst 0, 1) := by decide +kernel
theorem dX3_init_11 : decode cX3_init 11 = .ok (.putfield 15, 3) := by decide +kernel
theorem dX3_init_14 : decode cX3_init 14 = .ok (.aload_n 0, 1) := by decide +kernel
theorem dX3_init_15 : decode cX3_init 15 = .ok (.iconst 0, 1) := by decide +kernel
theorem dX3_init_16 : decode cX3_init 16 = .ok (.putfield 18, 3) := by decide +kernel
theorem dX3_init_19 : decode cX3_init 19 = .ok (.return_, 1) := by decide +kernel
theorem dX3_search_0 : decode cX3_search 0 = .ok (.aload_n 0, 1) := by decide +kernel
theorem dX3_search_1 : decode cX3_search 1 = .ok (.iconst 0, 1) := by decide +kernel
theorem dX3_search_2 : decode cX3_search 2 = .ok (.putfield 9, 3) := by decide +kernel
theorem dX3_search_5 : decode cX3_search 5 = .ok (.aload_n 0, 1) := by decide +kernel
theorem dX3_search_6 : decode cX3_search 6 = .ok (.iconst 0, 1) := by decide +kernel
theorem dX3_search_7 : decode cX3_search 7 = .ok (.putfield 15, 3) := by decide +kernel
theorem dX3_search_10 : decode cX3_search 10 = .ok (.aload_n 0, 1) := by decide +kernel
theorem dX3_search_11 : decode cX3_search 11 = .ok (.iconst (-1), 1) := by decide +kernel
theorem dX3_search_12 : decode cX3_search 12 = .ok (.putfield 18, 3) := by decide +kernel
theorem dX3_search_15 : decode cX3_search 15 = .ok (.aload_n 0, 1) := by decide +kernel
theorem dX3_search_16 : decode cX3_search 16 = .ok (.aload_n 1, 1) := by decide +kernel
theorem dX3_search_17 : decode cX3_search 17 = .ok (.iload_n 2, 1) := by decide +kernel
theorem dX3_search_18 : decode cX3_search 18 = .ok (.iconst 0, 1) := by decide +kernel
theorem dX3_search_19 : decode cX3_search 19 = .ok (.iconst 0, 1) := by decide +kernel
theorem dX3_search_20 : decode cX3_search 20 = .ok (.invokevirtual 21, 3) := by decide +kernel
theorem dX3_search_23 : decode cX3_search 23 = .ok (.return_, 1) := by decide +kernel
theorem dX3_choose_0 : decode cX3_choose 0 = .ok (.iload_n 3, 1) := by decide +kernel
theorem dX3_choose_1 : decode cX3_choose 1 = .ok (.invokestatic 25, 3) := by decide +kernel
theorem dX3_choose_4 : decode cX3_choose 4 = .ok (.iload_n 2, 1) := by decide +kernel
theorem dX3_choose_5 : decode cX3_choose 5 = .ok (.invokestatic 25, 3) := by decide +kernel
theorem dX3_choose_8 : decode cX3_choose 8 = .ok (.iadd, 1) := by decide +kernel
theorem dX3_choose_9 : decode cX3_choose 9 = .ok (.aload_n 0, 1) := by decide +kernel
theorem dX3_choose_10 : decode cX3_choose 10 = .ok (.getfield 18, 3) := by decide +kernel
theorem dX3_choose_13 : decode cX3_choose 13 = .ok (.if_icmp .ge 4, 3) := by decide +kernel
theorem dX3_choose_16 : decode cX3_choose 16 = .ok (.return_, 1) := by decide +kernel
theorem dX3_choose_17 : decode cX3_choose 17 = .ok (.iload 4, 2) := by decide +kernel
theorem dX3_choose_19 : decode cX3_choose 19 = .ok (.bipush 12, 2) := by decide +kernel
theorem dX3_choose_21 : decode cX3_choose 21 = .ok (.if_icmp .ge 7, 3) := by decide +kernel
theorem dX3_choose_24 : decode cX3_choose 24 = .ok (.iload_n 2, 1) := by decide +kernel
theorem dX3_choose_25 : decode cX3_choose 25 = .ok (.ifCond .ne 14, 3) := by decide +kernel
theorem dX3_choose_28 : decode cX3_choose 28 = .ok (.aload_n 0, 1) := by decide +kernel
theorem dX3_choose_29 : decode cX3_choose 29 = .ok (.iload_n 3, 1) := by decide +kernel
theorem dX3_choose_30 : decode cX3_choose 30 = .ok (.aload_n 1, 1) := by decide +kernel
theorem dX3_choose_31 : decode cX3_choose 31 = .ok (.iload_n 3, 1) := by decide +kernel
theorem dX3_choose_32 : decode cX3_choose 32 = .ok (.invokevirtual 31, 3) := by decide +kernel
theorem dX3_choose_35 : decode cX3_choose 35 = .ok (.invokevirtual 36, 3) := by decide +kernel
theorem dX3_choose_38 : decode cX3_choose 38 = .ok (.return_, 1) := by decide +kernel
theorem dX3_choose_39 : decode cX3_choose 39 = .ok (.iconst 1, 1) := by decide +kernel
theorem dX3_choose_40 : decode cX3_choose 40 = .ok (.iload 4, 2) := by decide +kernel
theorem dX3_choose_42 : decode cX3_choose 42 = .ok (.ishl, 1) := by decide +kernel
theorem dX3_choose_43 : decode cX3_choose 43 = .ok (.istore 5, 2) := by decide +kernel
theorem dX3_choose_45 : decode cX3_choose 45 = .ok (.iload_n 2, 1) := by decide +kernel
theorem dX3_choose_46 : decode cX3_choose 46 = .ok (.iload 5, 2) := by decide +kernel
theorem dX3_choose_48 : decode cX3_choose 48 = .ok (.iconst (-1), 1) := by decide +kernel
theorem dX3_choose_49 : decode cX3_choose 49 = .ok (.ixor, 1) := by decide +kernel
theorem dX3_choose_50 : decode cX3_choose 50 = .ok (.iand, 1) := by decide +kernel
theorem dX3_choose_51 : decode cX3_choose 51 = .ok (.istore 6, 2) := by decide +kernel
theorem dX3_choose_53 : decode cX3_choose 53 = .ok (.iload 6, 2) := by decide +kernel
theorem dX3_choose_55 : decode cX3_choose 55 = .ok (.iload_n 2, 1) := by decide +kernel
theorem dX3_choose_56 : decode cX3_choose 56 = .ok (.if_icmp .eq 38, 3) := by decide +kernel
theorem dX3_choose_59 : decode cX3_choose 59 = .ok (.aload_n 1, 1) := by decide +kernel
theorem dX3_choose_60 : decode cX3_choose 60 = .ok (.iload 4, 2) := by decide +kernel
theorem dX3_choose_62 : decode cX3_choose 62 = .ok (.iload_n 2, 1) := by decide +kernel
theorem dX3_choose_63 : decode cX3_choose 63 = .ok (.invokevirtual 40, 3) := by decide +kernel
theorem dX3_choose_66 : decode cX3_choose 66 = .ok (.istore 7, 2) := by decide +kernel
theorem dX3_choose_68 : decode cX3_choose 68 = .ok (.aload_n 0, 1) := by decide +kernel
theorem dX3_choose_69 : decode cX3_choose 69 = .ok (.aload_n 1, 1) := by decide +kernel
theorem dX3_choose_70 : decode cX3_choose 70 = .ok (.iload 6, 2) := by decide +kernel
theorem dX3_choose_72 : decode cX3_choose 72 = .ok (.iload 7, 2) := by decide +kernel
theorem dX3_choose_74 : decode cX3_choose 74 = .ok (.iconst (-1), 1) := by decide +kernel
theorem dX3_choose_75 : decode cX3_choose 75 = .ok (.ixor, 1) := by decide +kernel
theorem dX3_choose_76 : decode cX3_choose 76 = .ok (.iand, 1) := by decide +kernel
theorem dX3_choose_77 : decode cX3_choose 77 = .ok (.iload_n 3, 1) := by decide +kernel
theorem dX3_choose_78 : decode cX3_choose 78 = .ok (.iload 5, 2) := by decide +kernel
theorem dX3_choose_80 : decode cX3_choose 80 = .ok (.ior, 1) := by decide +kernel
theorem dX3_choose_81 : decode cX3_choose 81 = .ok (.iload 4, 2) := by decide +kernel
theorem dX3_choose_83 : decode cX3_choose 83 = .ok (.iconst 1, 1) := by decide +kernel
theorem dX3_choose_84 : decode cX3_choose 84 = .ok (.iadd, 1) := by decide +kernel
theorem dX3_choose_85 : decode cX3_choose 85 = .ok (.invokevirtual 21, 3) := by decide +kernel
theorem dX3_choose_88 : decode cX3_choose 88 = .ok (.iload 7, 2) := by decide +kernel
theorem dX3_choose_90 : decode cX3_choose 90 = .ok (.ifCond .ne 4, 3) := by decide +kernel
theorem dX3_choose_93 : decode cX3_choose 93 = .ok (.return_, 1) := by decide +kernel
theorem dX3_choose_94 : decode cX3_choose 94 = .ok (.aload_n 0, 1) := by decide +kernel
theorem dX3_choose_95 : decode cX3_choose 95 = .ok (.aload_n 1, 1) := by decide +kernel
theorem dX3_choose_96 : decode cX3_choose 96 = .ok (.iload 6, 2) := by decide +kernel
theorem dX3_choose_98 : decode cX3_choose 98 = .ok (.iload_n 3, 1) := by decide +kernel
theorem dX3_choose_99 : decode cX3_choose 99 = .ok (.iload 4, 2) := by decide +kernel
theorem dX3_choose_101 : decode cX3_choose 101 = .ok (.iconst 1, 1) := by decide +kernel
theorem dX3_choose_102 : decode cX3_choose 102 = .ok (.iadd, 1) := by decide +kernel
theorem dX3_choose_103 : decode cX3_choose 103 = .ok (.invokevirtual 21, 3) := by decide +kernel
theorem dX3_choose_106 : decode cX3_choose 106 = .ok (.return_, 1) := by decide +kernel
theorem dX3_weigh_0 : decode cX3_weigh 0 = .ok (.iload_n 1, 1) := by decide +kernel
theorem dX3_weigh_1 : decode cX3_weigh 1 = .ok (.invokestatic 25, 3) := by decide +kernel
theorem dX3_weigh_4 : decode cX3_weigh 4 = .ok (.istore_n 3, 1) := by decide +kernel
theorem dX3_weigh_5 : decode cX3_weigh 5 = .ok (.iload_n 3, 1) := by decide +kernel
theorem dX3_weigh_6 : decode cX3_weigh 6 = .ok (.aload_n 0, 1) := by decide +kernel
theorem dX3_weigh_7 : decode cX3_weigh 7 = .ok (.getfield 18, 3) := by decide +kernel
theorem dX3_weigh_10 : decode cX3_weigh 10 = .ok (.if_icmp .le 7, 3) := by decide +kernel
theorem dX3_weigh_13 : decode cX3_weigh 13 = .ok (.iconst 1, 1) := by decide +kernel
theorem dX3_weigh_14 : decode cX3_weigh 14 = .ok (.goto 4, 3) := by decide +kernel
theorem dX3_weigh_17 : decode cX3_weigh 17 = .ok (.iconst 0, 1) := by decide +kernel
theorem dX3_weigh_18 : decode cX3_weigh 18 = .ok (.istore 4, 2) := by decide +kernel
theorem dX3_weigh_20 : decode cX3_weigh 20 = .ok (.iload_n 3, 1) := by decide +kernel
theorem dX3_weigh_21 : decode cX3_weigh 21 = .ok (.aload_n 0, 1) := by decide +kernel
theorem dX3_weigh_22 : decode cX3_weigh 22 = .ok (.getfield 18, 3) := by decide +kernel
theorem dX3_weigh_25 : decode cX3_weigh 25 = .ok (.if_icmp .ne 34, 3) := by decide +kernel
theorem dX3_weigh_28 : decode cX3_weigh 28 = .ok (.iload_n 2, 1) := by decide +kernel
theorem dX3_weigh_29 : decode cX3_weigh 29 = .ok (.aload_n 0, 1) := by decide +kernel
theorem dX3_weigh_30 : decode cX3_weigh 30 = .ok (.getfield 15, 3) := by decide +kernel
theorem dX3_weigh_33 : decode cX3_weigh 33 = .ok (.if_icmp .gt 19, 3) := by decide +kernel
theorem dX3_weigh_36 : decode cX3_weigh 36 = .ok (.iload_n 2, 1) := by decide +kernel
theorem dX3_weigh_37 : decode cX3_weigh 37 = .ok (.aload_n 0, 1) := by decide +kernel
theorem dX3_weigh_38 : decode cX3_weigh 38 = .ok (.getfield 15, 3) := by decide +kernel
theorem dX3_weigh_41 : decode cX3_weigh 41 = .ok (.if_icmp .ne 15, 3) := by decide +kernel
theorem dX3_weigh_44 : decode cX3_weigh 44 = .ok (.iload_n 1, 1) := by decide +kernel
theorem dX3_weigh_45 : decode cX3_weigh 45 = .ok (.aload_n 0, 1) := by decide +kernel
theorem dX3_weigh_46 : decode cX3_weigh 46 = .ok (.getfield 9, 3) := by decide +kernel
theorem dX3_weigh_49 : decode cX3_weigh 49 = .ok (.if_icmp .ge 7, 3) := by decide +kernel
theorem dX3_weigh_52 : decode cX3_weigh 52 = .ok (.iconst 1, 1) := by decide +kernel
theorem dX3_weigh_53 : decode cX3_weigh 53 = .ok (.goto 4, 3) := by decide +kernel
theorem dX3_weigh_56 : decode cX3_weigh 56 = .ok (.iconst 0, 1) := by decide +kernel
theorem dX3_weigh_57 : decode cX3_weigh 57 = .ok (.istore 4, 2) := by decide +kernel
theorem dX3_weigh_59 : decode cX3_weigh 59 = .ok (.iload 4, 2) := by decide +kernel
theorem dX3_weigh_61 : decode cX3_weigh 61 = .ok (.ifCond .eq 18, 3) := by decide +kernel
theorem dX3_weigh_64 : decode cX3_weigh 64 = .ok (.aload_n 0, 1) := by decide +kernel
theorem dX3_weigh_65 : decode cX3_weigh 65 = .ok (.iload_n 1, 1) := by decide +kernel
theorem dX3_weigh_66 : decode cX3_weigh 66 = .ok (.putfield 9, 3) := by decide +kernel
theorem dX3_weigh_69 : decode cX3_weigh 69 = .ok (.aload_n 0, 1) := by decide +kernel
theorem dX3_weigh_70 : decode cX3_weigh 70 = .ok (.iload_n 2, 1) := by decide +kernel
theorem dX3_weigh_71 : decode cX3_weigh 71 = .ok (.putfield 15, 3) := by decide +kernel
theorem dX3_weigh_74 : decode cX3_weigh 74 = .ok (.aload_n 0, 1) := by decide +kernel
theorem dX3_weigh_75 : decode cX3_weigh 75 = .ok (.iload_n 3, 1) := by decide +kernel
theorem dX3_weigh_76 : decode cX3_weigh 76 = .ok (.putfield 18, 3) := by decide +kernel
theorem dX3_weigh_79 : decode cX3_weigh 79 = .ok (.return_, 1) := by decide +kernel
theorem dX4_init_0 : decode cX4_init 0 = .ok (.aload_n 0, 1) := by decide +kernel
theorem dX4_init_1 : decode cX4_init 1 = .ok (.invokespecial 3, 3) := by decide +kernel
theorem dX4_init_4 : decode cX4_init 4 = .ok (.aload_n 0, 1) := by decide +kernel
theorem dX4_init_5 : decode cX4_init 5 = .ok (.bipush 12, 2) := by decide +kernel
theorem dX4_init_7 : decode cX4_init 7 = .ok (.newarray .int, 2) := by decide +kernel
theorem dX4_init_9 : decode cX4_init 9 = .ok (.putfield 9, 3) := by decide +kernel
theorem dX4_init_12 : decode cX4_init 12 = .ok (.aload_n 0, 1) := by decide +kernel
theorem dX4_init_13 : decode cX4_init 13 = .ok (.bipush 12, 2) := by decide +kernel
theorem dX4_init_15 : decode cX4_init 15 = .ok (.newarray .int, 2) := by decide +kernel
theorem dX4_init_17 : decode cX4_init 17 = .ok (.putfield 15, 3) := by decide +kernel
theorem dX4_init_20 : decode cX4_init 20 = .ok (.aload_n 0, 1) := by decide +kernel
theorem dX4_init_21 : decode cX4_init 21 = .ok (.iconst 0, 1) := by decide +kernel
theorem dX4_init_22 : decode cX4_init 22 = .ok (.putfield 18, 3) := by decide +kernel
theorem dX4_init_25 : decode cX4_init 25 = .ok (.return_, 1) := by decide +kernel
theorem dX4_isFull_0 : decode cX4_isFull 0 = .ok (.aload_n 0, 1) := by decide +kernel
theorem dX4_isFull_1 : decode cX4_isFull 1 = .ok (.getfield 18, 3) := by decide +kernel
theorem dX4_isFull_4 : decode cX4_isFull 4 = .ok (.bipush 12, 2) := by decide +kernel
theorem dX4_isFull_6 : decode cX4_isFull 6 = .ok (.if_icmp .lt 7, 3) := by decide +kernel
theorem dX4_isFull_9 : decode cX4_isFull 9 = .ok (.iconst 1, 1) := by decide +kernel
theorem dX4_isFull_10 : decode cX4_isFull 10 = .ok (.goto 4, 3) := by decide +kernel
theorem dX4_isFull_13 : decode cX4_isFull 13 = .ok (.iconst 0, 1) := by decide +kernel
theorem dX4_isFull_14 : decode cX4_isFull 14 = .ok (.ireturn, 1) := by decide +kernel
theorem dX4_append_0 : decode cX4_append 0 = .ok (.aload_n 0, 1) := by decide +kernel
theorem dX4_append_1 : decode cX4_append 1 = .ok (.getfield 18, 3) := by decide +kernel
theorem dX4_append_4 : decode cX4_append 4 = .ok (.bipush 12, 2) := by decide +kernel
theorem dX4_append_6 : decode cX4_append 6 = .ok (.if_icmp .ge 33, 3) := by decide +kernel
theorem dX4_append_9 : decode cX4_append 9 = .ok (.aload_n 0, 1) := by decide +kernel
theorem dX4_append_10 : decode cX4_append 10 = .ok (.getfield 9, 3) := by decide +kernel
theorem dX4_append_13 : decode cX4_append 13 = .ok (.aload_n 0, 1) := by decide +kernel
theorem dX4_append_14 : decode cX4_append 14 = .ok (.getfield 18, 3) := by decide +kernel
theorem dX4_append_17 : decode cX4_append 17 = .ok (.iload_n 1, 1) := by decide +kernel
theorem dX4_append_18 : decode cX4_append 18 = .ok (.iastore, 1) := by decide +kernel
theorem dX4_append_19 : decode cX4_append 19 = .ok (.aload_n 0, 1) := by decide +kernel
theorem dX4_append_20 : decode cX4_append 20 = .ok (.getfield 15, 3) := by decide +kernel
theorem dX4_append_23 : decode cX4_append 23 = .ok (.aload_n 0, 1) := by decide +kernel
theorem dX4_append_24 : decode cX4_append 24 = .ok (.getfield 18, 3) := by decide +kernel
theorem dX4_append_27 : decode cX4_append 27 = .ok (.iload_n 2, 1) := by decide +kernel
theorem dX4_append_28 : decode cX4_append 28 = .ok (.iastore, 1) := by decide +kernel
theorem dX4_append_29 : decode cX4_append 29 = .ok (.aload_n 0, 1) := by decide +kernel
theorem dX4_append_30 : decode cX4_append 30 = .ok (.dup, 1) := by decide +kernel
theorem dX4_append_31 : decode cX4_append 31 = .ok (.getfield 18, 3) := by decide +kernel
theorem dX4_append_34 : decode cX4_append 34 = .ok (.iconst 1, 1) := by decide +kernel
theorem dX4_append_35 : decode cX4_append 35 = .ok (.iadd, 1) := by decide +kernel
theorem dX4_append_36 : decode cX4_append 36 = .ok (.putfield 18, 3) := by decide +kernel
theorem dX4_append_39 : decode cX4_append 39 = .ok (.return_, 1) := by decide +kernel
theorem dX4_has_0 : decode cX4_has 0 = .ok (.iconst 0, 1) := by decide +kernel
theorem dX4_has_1 : decode cX4_has 1 = .ok (.istore_n 3, 1) := by decide +kernel
theorem dX4_has_2 : decode cX4_has 2 = .ok (.iload_n 3, 1) := by decide +kernel
theorem dX4_has_3 : decode cX4_has 3 = .ok (.aload_n 0, 1) := by decide +kernel
theorem dX4_has_4 : decode cX4_has 4 = .ok (.getfield 18, 3) := by decide +kernel
theorem dX4_has_7 : decode cX4_has 7 = .ok (.if_icmp .ge 31, 3) := by decide +kernel
theorem dX4_has_10 : decode cX4_has 10 = .ok (.aload_n 0, 1) := by decide +kernel
theorem dX4_has_11 : decode cX4_has 11 = .ok (.getfield 9, 3) := by decide +kernel
theorem dX4_has_14 : decode cX4_has 14 = .ok (.iload_n 3, 1) := by decide +kernel
theorem dX4_has_15 : decode cX4_has 15 = .ok (.iaload, 1) := by decide +kernel
theorem dX4_has_16 : decode cX4_has 16 = .ok (.iload_n 1, 1) := by decide +kernel
theorem dX4_has_17 : decode cX4_has 17 = .ok (.if_icmp .ne 15, 3) := by decide +kernel
theorem dX4_has_20 : decode cX4_has 20 = .ok (.aload_n 0, 1) := by decide +kernel
theorem dX4_has_21 : decode cX4_has 21 = .ok (.getfield 15, 3) := by decide +kernel
theorem dX4_has_24 : decode cX4_has 24 = .ok (.iload_n 3, 1) := by decide +kernel
theorem dX4_has_25 : decode cX4_has 25 = .ok (.iaload, 1) := by decide +kernel
theorem dX4_has_26 : decode cX4_has 26 = .ok (.iload_n 2, 1) := by decide +kernel
theorem dX4_has_27 : decode cX4_has 27 = .ok (.if_icmp .ne 5, 3) := by decide +kernel
theorem dX4_has_30 : decode cX4_has 30 = .ok (.iconst 1, 1) := by decide +kernel
theorem dX4_has_31 : decode cX4_has 31 = .ok (.ireturn, 1) := by decide +kernel
theorem dX4_has_32 : decode cX4_has 32 = .ok (.iinc 3 1, 3) := by decide +kernel
theorem dX4_has_35 : decode cX4_has 35 = .ok (.goto (-33), 3) := by decide +kernel
theorem dX4_has_38 : decode cX4_has 38 = .ok (.iconst 0, 1) := by decide +kernel
theorem dX4_has_39 : decode cX4_has 39 = .ok (.ireturn, 1) := by decide +kernel
theorem dX5_init_0 : decode cX5_init 0 = .ok (.aload_n 0, 1) := by decide +kernel
theorem dX5_init_1 : decode cX5_init 1 = .ok (.invokespecial 3, 3) := by decide +kernel
theorem dX5_init_4 : decode cX5_init 4 = .ok (.aload_n 0, 1) := by decide +kernel
theorem dX5_init_5 : decode cX5_init 5 = .ok (.iconst 0, 1) := by decide +kernel
theorem dX5_init_6 : decode cX5_init 6 = .ok (.putfield 9, 3) := by decide +kernel
theorem dX5_init_9 : decode cX5_init 9 = .ok (.aload_n 0, 1) := by decide +kernel
theorem dX5_init_10 : decode cX5_init 10 = .ok (.iconst 4, 1) := by decide +kernel
theorem dX5_init_11 : decode cX5_init 11 = .ok (.newarray .int, 2) := by decide +kernel
theorem dX5_init_13 : decode cX5_init 13 = .ok (.putfield 15, 3) := by decide +kernel
theorem dX5_init_16 : decode cX5_init 16 = .ok (.aload_n 0, 1) := by decide +kernel
theorem dX5_init_17 : decode cX5_init 17 = .ok (.iconst 4, 1) := by decide +kernel
theorem dX5_init_18 : decode cX5_init 18 = .ok (.newarray .int, 2) := by decide +kernel
theorem dX5_init_20 : decode cX5_init 20 = .ok (.putfield 19, 3) := by decide +kernel
theorem dX5_init_23 : decode cX5_init 23 = .ok (.return_, 1) := by decide +kernel
theorem dX5_search_0 : decode cX5_search 0 = .ok (.aload_n 0, 1) := by decide +kernel
theorem dX5_search_1 : decode cX5_search 1 = .ok (.iconst (-1), 1) := by decide +kernel
theorem dX5_search_2 : decode cX5_search 2 = .ok (.putfield 9, 3) := by decide +kernel
theorem dX5_search_5 : decode cX5_search 5 = .ok (.iconst 0, 1) := by decide +kernel
theorem dX5_search_6 : decode cX5_search 6 = .ok (.istore 6, 2) := by decide +kernel
theorem dX5_search_8 : decode cX5_search 8 = .ok (.iload 6, 2) := by decide +kernel
theorem dX5_search_10 : decode cX5_search 10 = .ok (.bipush 12, 2) := by decide +kernel
theorem dX5_search_12 : decode cX5_search 12 = .ok (.if_icmp .ge 26, 3) := by decide +kernel
theorem dX5_search_15 : decode cX5_search 15 = .ok (.iload 4, 2) := by decide +kernel
theorem dX5_search_17 : decode cX5_search 17 = .ok (.iload 6, 2) := by decide +kernel
theorem dX5_search_19 : decode cX5_search 19 = .ok (.ishr, 1) := by decide +kernel
theorem dX5_search_20 : decode cX5_search 20 = .ok (.iconst 1, 1) := by decide +kernel
theorem dX5_search_21 : decode cX5_search 21 = .ok (.iand, 1) := by decide +kernel
theorem dX5_search_22 : decode cX5_search 22 = .ok (.iconst 1, 1) := by decide +kernel
theorem dX5_search_23 : decode cX5_search 23 = .ok (.if_icmp .ne 9, 3) := by decide +kernel
theorem dX5_search_26 : decode cX5_search 26 = .ok (.aload_n 2, 1) := by decide +kernel
theorem dX5_search_27 : decode cX5_search 27 = .ok (.iload 6, 2) := by decide +kernel
theorem dX5_search_29 : decode cX5_search 29 = .ok (.invokevirtual 22, 3) := by decide +kernel
theorem dX5_search_32 : decode cX5_search 32 = .ok (.iinc 6 1, 3) := by decide +kernel
theorem dX5_search_35 : decode cX5_search 35 = .ok (.goto (-27), 3) := by decide +kernel
theorem dX5_search_38 : decode cX5_search 38 = .ok (.aload_n 0, 1) := by decide +kernel
theorem dX5_search_39 : decode cX5_search 39 = .ok (.aload_n 1, 1) := by decide +kernel
theorem dX5_search_40 : decode cX5_search 40 = .ok (.aload_n 2, 1) := by decide +kernel
theorem dX5_search_41 : decode cX5_search 41 = .ok (.aload_n 3, 1) := by decide +kernel
theorem dX5_search_42 : decode cX5_search 42 = .ok (.iload 4, 2) := by decide +kernel
theorem dX5_search_44 : decode cX5_search 44 = .ok (.iload 5, 2) := by decide +kernel
theorem dX5_search_46 : decode cX5_search 46 = .ok (.iconst 0, 1) := by decide +kernel
theorem dX5_search_47 : decode cX5_search 47 = .ok (.iconst 0, 1) := by decide +kernel
theorem dX5_search_48 : decode cX5_search 48 = .ok (.invokevirtual 28, 3) := by decide +kernel
theorem dX5_search_51 : decode cX5_search 51 = .ok (.return_, 1) := by decide +kernel
theorem dX5_tryNext_0 : decode cX5_tryNext 0 = .ok (.iload 4, 2) := by decide +kernel
theorem dX5_tryNext_2 : decode cX5_tryNext 2 = .ok (.ifCond .eq 9, 3) := by decide +kernel
theorem dX5_tryNext_5 : decode cX5_tryNext 5 = .ok (.iload 6, 2) := by decide +kernel
theorem dX5_tryNext_7 : decode cX5_tryNext 7 = .ok (.iconst 4, 1) := by decide +kernel
theorem dX5_tryNext_8 : decode cX5_tryNext 8 = .ok (.if_icmp .lt 33, 3) := by decide +kernel
theorem dX5_tryNext_11 : decode cX5_tryNext 11 = .ok (.iload 7, 2) := by decide +kernel
theorem dX5_tryNext_13 : decode cX5_tryNext 13 = .ok (.aload_n 0, 1) := by decide +kernel
theorem dX5_tryNext_14 : decode cX5_tryNext 14 = .ok (.getfield 9, 3) := by decide +kernel
theorem dX5_tryNext_17 : decode cX5_tryNext 17 = .ok (.if_icmp .le 23, 3) := by decide +kernel
theorem dX5_tryNext_20 : decode cX5_tryNext 20 = .ok (.aload_n 0, 1) := by decide +kernel
theorem dX5_tryNext_21 : decode cX5_tryNext 21 = .ok (.iload 7, 2) := by decide +kernel
theorem dX5_tryNext_23 : decode cX5_tryNext 23 = .ok (.putfield 9, 3) := by decide +kernel
theorem dX5_tryNext_26 : decode cX5_tryNext 26 = .ok (.aload_n 0, 1) := by decide +kernel
theorem dX5_tryNext_27 : decode cX5_tryNext 27 = .ok (.getfield 19, 3) := by decide +kernel
theorem dX5_tryNext_30 : decode cX5_tryNext 30 = .ok (.iconst 0, 1) := by decide +kernel
theorem dX5_tryNext_31 : decode cX5_tryNext 31 = .ok (.aload_n 0, 1) := by decide +kernel
theorem dX5_tryNext_32 : decode cX5_tryNext 32 = .ok (.getfield 15, 3) := by decide +kernel
theorem dX5_tryNext_35 : decode cX5_tryNext 35 = .ok (.iconst 0, 1) := by decide +kernel
theorem dX5_tryNext_36 : decode cX5_tryNext 36 = .ok (.iconst 4, 1) := by decide +kernel
theorem dX5_tryNext_37 : decode cX5_tryNext 37 = .ok (.invokestatic 32, 3) := by decide +kernel
theorem dX5_tryNext_40 : decode cX5_tryNext 40 = .ok (.return_, 1) := by decide +kernel
theorem dX5_tryNext_41 : decode cX5_tryNext 41 = .ok (.iconst 0, 1) := by decide +kernel
theorem dX5_tryNext_42 : decode cX5_tryNext 42 = .ok (.istore 8, 2) := by decide +kernel
theorem dX5_tryNext_44 : decode cX5_tryNext 44 = .ok (.iload 8, 2) := by decide +kernel
theorem dX5_tryNext_46 : decode cX5_tryNext 46 = .ok (.bipush 12, 2) := by decide +kernel
theorem dX5_tryNext_48 : decode cX5_tryNext 48 = .ok (.if_icmp .ge 93, 3) := by decide +kernel
theorem dX5_tryNext_51 : decode cX5_tryNext 51 = .ok (.iload 4, 2) := by decide +kernel
theorem dX5_tryNext_53 : decode cX5_tryNext 53 = .ok (.iload 8, 2) := by decide +kernel
theorem dX5_tryNext_55 : decode cX5_tryNext 55 = .ok (.ishr, 1) := by decide +kernel
theorem dX5_tryNext_56 : decode cX5_tryNext 56 = .ok (.iconst 1, 1) := by decide +kernel
theorem dX5_tryNext_57 : decode cX5_tryNext 57 = .ok (.iand, 1) := by decide +kernel
theorem dX5_tryNext_58 : decode cX5_tryNext 58 = .ok (.iconst 1, 1) := by decide +kernel
theorem dX5_tryNext_59 : decode cX5_tryNext 59 = .ok (.if_icmp .ne 76, 3) := by decide +kernel
theorem dX5_tryNext_62 : decode cX5_tryNext 62 = .ok (.aload_n 0, 1) := by decide +kernel
theorem dX5_tryNext_63 : decode cX5_tryNext 63 = .ok (.getfield 19, 3) := by decide +kernel
theorem dX5_tryNext_66 : decode cX5_tryNext 66 = .ok (.iload 6, 2) := by decide +kernel
theorem dX5_tryNext_68 : decode cX5_tryNext 68 = .ok (.iload 8, 2) := by decide +kernel
theorem dX5_tryNext_70 : decode cX5_tryNext 70 = .ok (.iastore, 1) := by decide +kernel
theorem dX5_tryNext_71 : decode cX5_tryNext 71 = .ok (.aload_n 2, 1) := by decide +kernel
theorem dX5_tryNext_72 : decode cX5_tryNext 72 = .ok (.iload 8, 2) := by decide +kernel
theorem dX5_tryNext_74 : decode cX5_tryNext 74 = .ok (.iload 5, 2) := by decide +kernel
theorem dX5_tryNext_76 : decode cX5_tryNext 76 = .ok (.aload_n 3, 1) := by decide +kernel
theorem dX5_tryNext_77 : decode cX5_tryNext 77 = .ok (.iload 5, 2) := by decide +kernel
theorem dX5_tryNext_79 : decode cX5_tryNext 79 = .ok (.iload 8, 2) := by decide +kernel
theorem dX5_tryNext_81 : decode cX5_tryNext 81 = .ok (.invokevirtual 38, 3) := by decide +kernel
theorem dX5_tryNext_84 : decode cX5_tryNext 84 = .ok (.invokevirtual 44, 3) := by decide +kernel
theorem dX5_tryNext_87 : decode cX5_tryNext 87 = .ok (.aload_n 1, 1) := by decide +kernel
theorem dX5_tryNext_88 : decode cX5_tryNext 88 = .ok (.aload_n 2, 1) := by decide +kernel
theorem dX5_tryNext_89 : decode cX5_tryNext 89 = .ok (.aload_n 1, 1) := by decide +kernel
theorem dX5_tryNext_90 : decode cX5_tryNext 90 = .ok (.iload 5, 2) := by decide +kernel
theorem dX5_tryNext_92 : decode cX5_tryNext 92 = .ok (.invokevirtual 48, 3) := by decide +kernel
theorem dX5_tryNext_95 : decode cX5_tryNext 95 = .ok (.invokevirtual 52, 3) := by decide +kernel
theorem dX5_tryNext_98 : decode cX5_tryNext 98 = .ok (.istore 9, 2) := by decide +kernel
theorem dX5_tryNext_100 : decode cX5_tryNext 100 = .ok (.aload_n 0, 1) := by decide +kernel
theorem dX5_tryNext_101 : decode cX5_tryNext 101 = .ok (.aload_n 1, 1) := by decide +kernel
theorem dX5_tryNext_102 : decode cX5_tryNext 102 = .ok (.aload_n 2, 1) := by decide +kernel
theorem dX5_tryNext_103 : decode cX5_tryNext 103 = .ok (.aload_n 3, 1) := by decide +kernel
theorem dX5_tryNext_104 : decode cX5_tryNext 104 = .ok (.iload 4, 2) := by decide +kernel
theorem dX5_tryNext_106 : decode cX5_tryNext 106 = .ok (.iconst 1, 1) := by decide +kernel
theorem dX5_tryNext_107 : decode cX5_tryNext 107 = .ok (.iload 8, 2) := by decide +kernel
theorem dX5_tryNext_109 : decode cX5_tryNext 109 = .ok (.ishl, 1) := by decide +kernel
theorem dX5_tryNext_110 : decode cX5_tryNext 110 = .ok (.iconst (-1), 1) := by decide +kernel
theorem dX5_tryNext_111 : decode cX5_tryNext 111 = .ok (.ixor, 1) := by decide +kernel
theorem dX5_tryNext_112 : decode cX5_tryNext 112 = .ok (.iand, 1) := by decide +kernel
theorem dX5_tryNext_113 : decode cX5_tryNext 113 = .ok (.iload 5, 2) := by decide +kernel
theorem dX5_tryNext_115 : decode cX5_tryNext 115 = .ok (.iconst 1, 1) := by decide +kernel
theorem dX5_tryNext_116 : decode cX5_tryNext 116 = .ok (.iadd, 1) := by decide +kernel
theorem dX5_tryNext_117 : decode cX5_tryNext 117 = .ok (.iload 6, 2) := by decide +kernel
theorem dX5_tryNext_119 : decode cX5_tryNext 119 = .ok (.iconst 1, 1) := by decide +kernel
theorem dX5_tryNext_120 : decode cX5_tryNext 120 = .ok (.iadd, 1) := by decide +kernel
theorem dX5_tryNext_121 : decode cX5_tryNext 121 = .ok (.iload 7, 2) := by decide +kernel
theorem dX5_tryNext_123 : decode cX5_tryNext 123 = .ok (.iload 9, 2) := by decide +kernel
theorem dX5_tryNext_125 : decode cX5_tryNext 125 = .ok (.iadd, 1) := by decide +kernel
theorem dX5_tryNext_126 : decode cX5_tryNext 126 = .ok (.invokevirtual 28, 3) := by decide +kernel
theorem dX5_tryNext_129 : decode cX5_tryNext 129 = .ok (.aload_n 2, 1) := by decide +kernel
theorem dX5_tryNext_130 : decode cX5_tryNext 130 = .ok (.iload 8, 2) := by decide +kernel
theorem dX5_tryNext_132 : decode cX5_tryNext 132 = .ok (.invokevirtual 22, 3) := by decide +kernel
theorem dX5_tryNext_135 : decode cX5_tryNext 135 = .ok (.iinc 8 1, 3) := by decide +kernel
theorem dX5_tryNext_138 : decode cX5_tryNext 138 = .ok (.goto (-94), 3) := by decide +kernel
theorem dX5_tryNext_141 : decode cX5_tryNext 141 = .ok (.return_, 1) := by decide +kernel
theorem dX6_init_0 : decode cX6_init 0 = .ok (.aload_n 0, 1) := by decide +kernel
theorem dX6_init_1 : decode cX6_init 1 = .ok (.invokespecial 3, 3) := by decide +kernel
theorem dX6_init_4 : decode cX6_init 4 = .ok (.aload_n 0, 1) := by decide +kernel
theorem dX6_init_5 : decode cX6_init 5 = .ok (.bipush 12, 2) := by decide +kernel
theorem dX6_init_7 : decode cX6_init 7 = .ok (.newarray .int, 2) := by decide +kernel
theorem dX6_init_9 : decode cX6_init 9 = .ok (.putfield 9, 3) := by decide +kernel
theorem dX6_init_12 : decode cX6_init 12 = .ok (.aload_n 0, 1) := by decide +kernel
theorem dX6_init_13 : decode cX6_init 13 = .ok (.iconst 0, 1) := by decide +kernel
theorem dX6_init_14 : decode cX6_init 14 = .ok (.putfield 15, 3) := by decide +kernel
theorem dX6_init_17 : decode cX6_init 17 = .ok (.aload_n 0, 1) := by decide +kernel
theorem dX6_init_18 : decode cX6_init 18 = .ok (.iconst 0, 1) := by decide +kernel
theorem dX6_init_19 : decode cX6_init 19 = .ok (.putfield 19, 3) := by decide +kernel
theorem dX6_init_22 : decode cX6_init 22 = .ok (.aload_n 0, 1) := by decide +kernel
theorem dX6_init_23 : decode cX6_init 23 = .ok (.getfield 9, 3) := by decide +kernel
theorem dX6_init_26 : decode cX6_init 26 = .ok (.iconst (-1), 1) := by decide +kernel
theorem dX6_init_27 : decode cX6_init 27 = .ok (.invokestatic 22, 3) := by decide +kernel
theorem dX6_init_30 : decode cX6_init 30 = .ok (.return_, 1) := by decide +kernel
theorem dX6_begin_0 : decode cX6_begin 0 = .ok (.aload_n 0, 1) := by decide +kernel
theorem dX6_begin_1 : decode cX6_begin 1 = .ok (.getfield 9, 3) := by decide +kernel
theorem dX6_begin_4 : decode cX6_begin 4 = .ok (.iconst (-1), 1) := by decide +kernel
theorem dX6_begin_5 : decode cX6_begin 5 = .ok (.invokestatic 22, 3) := by decide +kernel
theorem dX6_begin_8 : decode cX6_begin 8 = .ok (.aload_n 0, 1) := by decide +kernel
theorem dX6_begin_9 : decode cX6_begin 9 = .ok (.iconst 0, 1) := by decide +kernel
theorem dX6_begin_10 : decode cX6_begin 10 = .ok (.putfield 15, 3) := by decide +kernel
theorem dX6_begin_13 : decode cX6_begin 13 = .ok (.return_, 1) := by decide +kernel
theorem dX6_retell_0 : decode cX6_retell 0 = .ok (.aload_n 0, 1) := by decide +kernel
theorem dX6_retell_1 : decode cX6_retell 1 = .ok (.invokevirtual 28, 3) := by decide +kernel
theorem dX6_retell_4 : decode cX6_retell 4 = .ok (.iconst 0, 1) := by decide +kernel
theorem dX6_retell_5 : decode cX6_retell 5 = .ok (.istore_n 3, 1) := by decide +kernel
theorem dX6_retell_6 : decode cX6_retell 6 = .ok (.iload_n 3, 1) := by decide +kernel
theorem dX6_retell_7 : decode cX6_retell 7 = .ok (.aload_n 1, 1) := by decide +kernel
theorem dX6_retell_8 : decode cX6_retell 8 = .ok (.getfield 31, 3) := by decide +kernel
theorem dX6_retell_11 : decode cX6_retell 11 = .ok (.if_icmp .ge 52, 3) := by decide +kernel
theorem dX6_retell_14 : decode cX6_retell 14 = .ok (.aload_n 1, 1) := by decide +kernel
theorem dX6_retell_15 : decode cX6_retell 15 = .ok (.getfield 36, 3) := by decide +kernel
theorem dX6_retell_18 : decode cX6_retell 18 = .ok (.iload_n 3, 1) := by decide +kernel
theorem dX6_retell_19 : decode cX6_retell 19 = .ok (.iaload, 1) := by decide +kernel
theorem dX6_retell_20 : decode cX6_retell 20 = .ok (.istore 4, 2) := by decide +kernel
theorem dX6_retell_22 : decode cX6_retell 22 = .ok (.aload_n 0, 1) := by decide +kernel
theorem dX6_retell_23 : decode cX6_retell 23 = .ok (.getfield 9, 3) := by decide +kernel
theorem dX6_retell_26 : decode cX6_retell 26 = .ok (.iload 4, 2) := by decide +kernel
theorem dX6_retell_28 : decode cX6_retell 28 = .ok (.iaload, 1) := by decide +kernel
theorem dX6_retell_29 : decode cX6_retell 29 = .ok (.iconst (-1), 1) := by decide +kernel
theorem dX6_retell_30 : decode cX6_retell 30 = .ok (.if_icmp .ne 27, 3) := by decide +kernel
theorem dX6_retell_33 : decode cX6_retell 33 = .ok (.aload_n 0, 1) := by decide +kernel
theorem dX6_retell_34 : decode cX6_retell 34 = .ok (.iload 4, 2) := by decide +kernel
theorem dX6_retell_36 : decode cX6_retell 36 = .ok (.aload_n 1, 1) := by decide +kernel
theorem dX6_retell_37 : decode cX6_retell 37 = .ok (.getfield 39, 3) := by decide +kernel
theorem dX6_retell_40 : decode cX6_retell 40 = .ok (.iload_n 3, 1) := by decide +kernel
theorem dX6_retell_41 : decode cX6_retell 41 = .ok (.iaload, 1) := by decide +kernel
theorem dX6_retell_42 : decode cX6_retell 42 = .ok (.aload_n 2, 1) := by decide +kernel
theorem dX6_retell_43 : decode cX6_retell 43 = .ok (.aload_n 1, 1) := by decide +kernel
theorem dX6_retell_44 : decode cX6_retell 44 = .ok (.getfield 39, 3) := by decide +kernel
theorem dX6_retell_47 : decode cX6_retell 47 = .ok (.iload_n 3, 1) := by decide +kernel
theorem dX6_retell_48 : decode cX6_retell 48 = .ok (.iaload, 1) := by decide +kernel
theorem dX6_retell_49 : decode cX6_retell 49 = .ok (.iload 4, 2) := by decide +kernel
theorem dX6_retell_51 : decode cX6_retell 51 = .ok (.invokevirtual 42, 3) := by decide +kernel
theorem dX6_retell_54 : decode cX6_retell 54 = .ok (.invokevirtual 46, 3) := by decide +kernel
theorem dX6_retell_57 : decode cX6_retell 57 = .ok (.iinc 3 1, 3) := by decide +kernel
theorem dX6_retell_60 : decode cX6_retell 60 = .ok (.goto (-54), 3) := by decide +kernel
theorem dX6_retell_63 : decode cX6_retell 63 = .ok (.return_, 1) := by decide +kernel
theorem dX6_draw_0 : decode cX6_draw 0 = .ok (.aload_n 0, 1) := by decide +kernel
theorem dX6_draw_1 : decode cX6_draw 1 = .ok (.invokevirtual 28, 3) := by decide +kernel
theorem dX6_draw_4 : decode cX6_draw 4 = .ok (.aload_n 0, 1) := by decide +kernel
theorem dX6_draw_5 : decode cX6_draw 5 = .ok (.iload_n 1, 1) := by decide +kernel
theorem dX6_draw_6 : decode cX6_draw 6 = .ok (.putfield 19, 3) := by decide +kernel
theorem dX6_draw_9 : decode cX6_draw 9 = .ok (.iconst 0, 1) := by decide +kernel
theorem dX6_draw_10 : decode cX6_draw 10 = .ok (.istore 4, 2) := by decide +kernel
theorem dX6_draw_12 : decode cX6_draw 12 = .ok (.iload 4, 2) := by decide +kernel
theorem dX6_draw_14 : decode cX6_draw 14 = .ok (.iload_n 2, 1) := by decide +kernel
theorem dX6_draw_15 : decode cX6_draw 15 = .ok (.if_icmp .ge 52, 3) := by decide +kernel
theorem dX6_draw_18 : decode cX6_draw 18 = .ok (.aload_n 0, 1) := by decide +kernel
theorem dX6_draw_19 : decode cX6_draw 19 = .ok (.iload_n 3, 1) := by decide +kernel
theorem dX6_draw_20 : decode cX6_draw 20 = .ok (.invokevirtual 50, 3) := by decide +kernel
theorem dX6_draw_23 : decode cX6_draw 23 = .ok (.istore 5, 2) := by decide +kernel
theorem dX6_draw_25 : decode cX6_draw 25 = .ok (.aload_n 0, 1) := by decide +kernel
theorem dX6_draw_26 : decode cX6_draw 26 = .ok (.iconst 4, 1) := by decide +kernel
theorem dX6_draw_27 : decode cX6_draw 27 = .ok (.invokevirtual 50, 3) := by decide +kernel
theorem dX6_draw_30 : decode cX6_draw 30 = .ok (.ifCond .ne 7, 3) := by decide +kernel
theorem dX6_draw_33 : decode cX6_draw 33 = .ok (.iconst 1, 1) := by decide +kernel
theorem dX6_draw_34 : decode cX6_draw 34 = .ok (.goto 4, 3) := by decide +kernel
theorem dX6_draw_37 : decode cX6_draw 37 = .ok (.iconst 0, 1) := by decide +kernel
theorem dX6_draw_38 : decode cX6_draw 38 = .ok (.istore 6, 2) := by decide +kernel
theorem dX6_draw_40 : decode cX6_draw 40 = .ok (.aload_n 0, 1) := by decide +kernel
theorem dX6_draw_41 : decode cX6_draw 41 = .ok (.getfield 9, 3) := by decide +kernel
theorem dX6_draw_44 : decode cX6_draw 44 = .ok (.iload 5, 2) := by decide +kernel
theorem dX6_draw_46 : decode cX6_draw 46 = .ok (.iaload, 1) := by decide +kernel
theorem dX6_draw_47 : decode cX6_draw 47 = .ok (.iconst (-1), 1) := by decide +kernel
theorem dX6_draw_48 : decode cX6_draw 48 = .ok (.if_icmp .ne 13, 3) := by decide +kernel
theorem dX6_draw_51 : decode cX6_draw 51 = .ok (.aload_n 0, 1) := by decide +kernel
theorem dX6_draw_52 : decode cX6_draw 52 = .ok (.iload 5, 2) := by decide +kernel
theorem dX6_draw_54 : decode cX6_draw 54 = .ok (.iload 4, 2) := by decide +kernel
theorem dX6_draw_56 : decode cX6_draw 56 = .ok (.iload 6, 2) := by decide +kernel
theorem dX6_draw_58 : decode cX6_draw 58 = .ok (.invokevirtual 46, 3) := by decide +kernel
theorem dX6_draw_61 : decode cX6_draw 61 = .ok (.iinc 4 1, 3) := by decide +kernel
theorem dX6_draw_64 : decode cX6_draw 64 = .ok (.goto (-52), 3) := by decide +kernel
theorem dX6_draw_67 : decode cX6_draw 67 = .ok (.return_, 1) := by decide +kernel
theorem dX6_lot_0 : decode cX6_lot 0 = .ok (.aload_n 0, 1) := by decide +kernel
theorem dX6_lot_1 : decode cX6_lot 1 = .ok (.ldc 54, 2) := by decide +kernel
theorem dX6_lot_3 : decode cX6_lot 3 = .ok (.aload_n 0, 1) := by decide +kernel
theorem dX6_lot_4 : decode cX6_lot 4 = .ok (.getfield 19, 3) := by decide +kernel
theorem dX6_lot_7 : decode cX6_lot 7 = .ok (.imul, 1) := by decide +kernel
theorem dX6_lot_8 : decode cX6_lot 8 = .ok (.sipush 12345, 3) := by decide +kernel
theorem dX6_lot_11 : decode cX6_lot 11 = .ok (.iadd, 1) := by decide +kernel
theorem dX6_lot_12 : decode cX6_lot 12 = .ok (.putfield 19, 3) := by decide +kernel
theorem dX6_lot_15 : decode cX6_lot 15 = .ok (.iload_n 1, 1) := by decide +kernel
theorem dX6_lot_16 : decode cX6_lot 16 = .ok (.ifCond .le 15, 3) := by decide +kernel
theorem dX6_lot_19 : decode cX6_lot 19 = .ok (.aload_n 0, 1) := by decide +kernel
theorem dX6_lot_20 : decode cX6_lot 20 = .ok (.getfield 19, 3) := by decide +kernel
theorem dX6_lot_23 : decode cX6_lot 23 = .ok (.bipush 16, 2) := by decide +kernel
theorem dX6_lot_25 : decode cX6_lot 25 = .ok (.iushr, 1) := by decide +kernel
theorem dX6_lot_26 : decode cX6_lot 26 = .ok (.iload_n 1, 1) := by decide +kernel
theorem dX6_lot_27 : decode cX6_lot 27 = .ok (.irem, 1) := by decide +kernel
theorem dX6_lot_28 : decode cX6_lot 28 = .ok (.goto 4, 3) := by decide +kernel
theorem dX6_lot_31 : decode cX6_lot 31 = .ok (.iconst 0, 1) := by decide +kernel
theorem dX6_lot_32 : decode cX6_lot 32 = .ok (.ireturn, 1) := by decide +kernel
theorem dX6_put_0 : decode cX6_put 0 = .ok (.aload_n 0, 1) := by decide +kernel
theorem dX6_put_1 : decode cX6_put 1 = .ok (.getfield 9, 3) := by decide +kernel
theorem dX6_put_4 : decode cX6_put 4 = .ok (.iload_n 1, 1) := by decide +kernel
theorem dX6_put_5 : decode cX6_put 5 = .ok (.iload_n 2, 1) := by decide +kernel
theorem dX6_put_6 : decode cX6_put 6 = .ok (.iastore, 1) := by decide +kernel
theorem dX6_put_7 : decode cX6_put 7 = .ok (.iload_n 3, 1) := by decide +kernel
theorem dX6_put_8 : decode cX6_put 8 = .ok (.ifCond .eq 15, 3) := by decide +kernel
theorem dX6_put_11 : decode cX6_put 11 = .ok (.aload_n 0, 1) := by decide +kernel
theorem dX6_put_12 : decode cX6_put 12 = .ok (.dup, 1) := by decide +kernel
theorem dX6_put_13 : decode cX6_put 13 = .ok (.getfield 15, 3) := by decide +kernel
theorem dX6_put_16 : decode cX6_put 16 = .ok (.iconst 1, 1) := by decide +kernel
theorem dX6_put_17 : decode cX6_put 17 = .ok (.iload_n 1, 1) := by decide +kernel
theorem dX6_put_18 : decode cX6_put 18 = .ok (.ishl, 1) := by decide +kernel
theorem dX6_put_19 : decode cX6_put 19 = .ok (.ior, 1) := by decide +kernel
theorem dX6_put_20 : decode cX6_put 20 = .ok (.putfield 15, 3) := by decide +kernel
theorem dX6_put_23 : decode cX6_put 23 = .ok (.return_, 1) := by decide +kernel
theorem dX6_drop_0 : decode cX6_drop 0 = .ok (.aload_n 0, 1) := by decide +kernel
theorem dX6_drop_1 : decode cX6_drop 1 = .ok (.getfield 9, 3) := by decide +kernel
theorem dX6_drop_4 : decode cX6_drop 4 = .ok (.iload_n 1, 1) := by decide +kernel
theorem dX6_drop_5 : decode cX6_drop 5 = .ok (.iconst (-1), 1) := by decide +kernel
theorem dX6_drop_6 : decode cX6_drop 6 = .ok (.iastore, 1) := by decide +kernel
theorem dX6_drop_7 : decode cX6_drop 7 = .ok (.aload_n 0, 1) := by decide +kernel
theorem dX6_drop_8 : decode cX6_drop 8 = .ok (.dup, 1) := by decide +kernel
theorem dX6_drop_9 : decode cX6_drop 9 = .ok (.getfield 15, 3) := by decide +kernel
theorem dX6_drop_12 : decode cX6_drop 12 = .ok (.iconst 1, 1) := by decide +kernel
theorem dX6_drop_13 : decode cX6_drop 13 = .ok (.iload_n 1, 1) := by decide +kernel
theorem dX6_drop_14 : decode cX6_drop 14 = .ok (.ishl, 1) := by decide +kernel
theorem dX6_drop_15 : decode cX6_drop 15 = .ok (.iconst (-1), 1) := by decide +kernel
theorem dX6_drop_16 : decode cX6_drop 16 = .ok (.ixor, 1) := by decide +kernel
theorem dX6_drop_17 : decode cX6_drop 17 = .ok (.iand, 1) := by decide +kernel
theorem dX6_drop_18 : decode cX6_drop 18 = .ok (.putfield 15, 3) := by decide +kernel
theorem dX6_drop_21 : decode cX6_drop 21 = .ok (.return_, 1) := by decide +kernel
theorem dX6_bindingKing_0 : decode cX6_bindingKing 0 = .ok (.aload_n 1, 1) := by decide +kernel
theorem dX6_bindingKing_1 : decode cX6_bindingKing 1 = .ok (.aload_n 0, 1) := by decide +kernel
theorem dX6_bindingKing_2 : decode cX6_bindingKing 2 = .ok (.iload_n 2, 1) := by decide +kernel
theorem dX6_bindingKing_3 : decode cX6_bindingKing 3 = .ok (.invokevirtual 55, 3) := by decide +kernel
theorem dX6_bindingKing_6 : decode cX6_bindingKing 6 = .ok (.aload_n 0, 1) := by decide +kernel
theorem dX6_bindingKing_7 : decode cX6_bindingKing 7 = .ok (.iload_n 2, 1) := by decide +kernel
theorem dX6_bindingKing_8 : decode cX6_bindingKing 8 = .ok (.iload_n 2, 1) := by decide +kernel
theorem dX6_bindingKing_9 : decode cX6_bindingKing 9 = .ok (.invokevirtual 58, 3) := by decide +kernel
theorem dX6_bindingKing_12 : decode cX6_bindingKing 12 = .ok (.ior, 1) := by decide +kernel
theorem dX6_bindingKing_13 : decode cX6_bindingKing 13 = .ok (.invokevirtual 62, 3) := by decide +kernel
theorem dX6_bindingKing_16 : decode cX6_bindingKing 16 = .ok (.ireturn, 1) := by decide +kernel
theorem dX6_bindingOthers_0 : decode cX6_bindingOthers 0 = .ok (.aload_n 1, 1) := by decide +kernel
theorem dX6_bindingOthers_1 : decode cX6_bindingOthers 1 = .ok (.aload_n 0, 1) := by decide +kernel
theorem dX6_bindingOthers_2 : decode cX6_bindingOthers 2 = .ok (.iload_n 2, 1) := by decide +kernel
theorem dX6_bindingOthers_3 : decode cX6_bindingOthers 3 = .ok (.invokevirtual 55, 3) := by decide +kernel
theorem dX6_bindingOthers_6 : decode cX6_bindingOthers 6 = .ok (.invokevirtual 62, 3) := by decide +kernel
theorem dX6_bindingOthers_9 : decode cX6_bindingOthers 9 = .ok (.ireturn, 1) := by decide +kernel
theorem dX6_lapsedBy_0 : decode cX6_lapsedBy 0 = .ok (.aload_n 0, 1) := by decide +kernel
theorem dX6_lapsedBy_1 : decode cX6_lapsedBy 1 = .ok (.getfield 15, 3) := by decide +kernel
theorem dX6_lapsedBy_4 : decode cX6_lapsedBy 4 = .ok (.aload_n 0, 1) := by decide +kernel
theorem dX6_lapsedBy_5 : decode cX6_lapsedBy 5 = .ok (.iconst 0, 1) := by decide +kernel
theorem dX6_lapsedBy_6 : decode cX6_lapsedBy 6 = .ok (.iload_n 2, 1) := by decide +kernel
theorem dX6_lapsedBy_7 : decode cX6_lapsedBy 7 = .ok (.invokevirtual 58, 3) := by decide +kernel
theorem dX6_lapsedBy_10 : decode cX6_lapsedBy 10 = .ok (.iand, 1) := by decide +kernel
theorem dX6_lapsedBy_11 : decode cX6_lapsedBy 11 = .ok (.aload_n 1, 1) := by decide +kernel
theorem dX6_lapsedBy_12 : decode cX6_lapsedBy 12 = .ok (.invokevirtual 67, 3) := by decide +kernel
theorem dX6_lapsedBy_15 : decode cX6_lapsedBy 15 = .ok (.iand, 1) := by decide +kernel
theorem dX6_lapsedBy_16 : decode cX6_lapsedBy 16 = .ok (.ireturn, 1) := by decide +kernel
theorem dX6_lasting_0 : decode cX6_lasting 0 = .ok (.aload_n 0, 1) := by decide +kernel
theorem dX6_lasting_1 : decode cX6_lasting 1 = .ok (.iconst 0, 1) := by decide +kernel
theorem dX6_lasting_2 : decode cX6_lasting 2 = .ok (.iload_n 1, 1) := by decide +kernel
theorem dX6_lasting_3 : decode cX6_lasting 3 = .ok (.iconst 1, 1) := by decide +kernel
theorem dX6_lasting_4 : decode cX6_lasting 4 = .ok (.isub, 1) := by decide +kernel
theorem dX6_lasting_5 : decode cX6_lasting 5 = .ok (.invokevirtual 58, 3) := by decide +kernel
theorem dX6_lasting_8 : decode cX6_lasting 8 = .ok (.aload_n 0, 1) := by decide +kernel
theorem dX6_lasting_9 : decode cX6_lasting 9 = .ok (.getfield 15, 3) := by decide +kernel
theorem dX6_lasting_12 : decode cX6_lasting 12 = .ok (.iconst (-1), 1) := by decide +kernel
theorem dX6_lasting_13 : decode cX6_lasting 13 = .ok (.ixor, 1) := by decide +kernel
theorem dX6_lasting_14 : decode cX6_lasting 14 = .ok (.iand, 1) := by decide +kernel
theorem dX6_lasting_15 : decode cX6_lasting 15 = .ok (.ireturn, 1) := by decide +kernel
theorem dX6_triedBetween_0 : decode cX6_triedBetween 0 = .ok (.iconst 0, 1) := by decide +kernel
theorem dX6_triedBetween_1 : decode cX6_triedBetween 1 = .ok (.istore_n 3, 1) := by decide +kernel
theorem dX6_triedBetween_2 : decode cX6_triedBetween 2 = .ok (.iconst 0, 1) := by decide +kernel
theorem dX6_triedBetween_3 : decode cX6_triedBetween 3 = .ok (.istore 4, 2) := by decide +kernel
theorem dX6_triedBetween_5 : decode cX6_triedBetween 5 = .ok (.iload 4, 2) := by decide +kernel
theorem dX6_triedBetween_7 : decode cX6_triedBetween 7 = .ok (.bipush 12, 2) := by decide +kernel
theorem dX6_triedBetween_9 : decode cX6_triedBetween 9 = .ok (.if_icmp .ge 38, 3) := by decide +kernel
theorem dX6_triedBetween_12 : decode cX6_triedBetween 12 = .ok (.aload_n 0, 1) := by decide +kernel
theorem dX6_triedBetween_13 : decode cX6_triedBetween 13 = .ok (.getfield 9, 3) := by decide +kernel
theorem dX6_triedBetween_16 : decode cX6_triedBetween 16 = .ok (.iload 4, 2) := by decide +kernel
theorem dX6_triedBetween_18 : decode cX6_triedBetween 18 = .ok (.iaload, 1) := by decide +kernel
theorem dX6_triedBetween_19 : decode cX6_triedBetween 19 = .ok (.iload_n 1, 1) := by decide +kernel
theorem dX6_triedBetween_20 : decode cX6_triedBetween 20 = .ok (.if_icmp .lt 21, 3) := by decide +kernel
theorem dX6_triedBetween_23 : decode cX6_triedBetween 23 = .ok (.aload_n 0, 1) := by decide +kernel
theorem dX6_triedBetween_24 : decode cX6_triedBetween 24 = .ok (.getfield 9, 3) := by decide +kernel
theorem dX6_triedBetween_27 : decode cX6_triedBetween 27 = .ok (.iload 4, 2) := by decide +kernel
theorem dX6_triedBetween_29 : decode cX6_triedBetween 29 = .ok (.iaload, 1) := by decide +kernel
theorem dX6_triedBetween_30 : decode cX6_triedBetween 30 = .ok (.iload_n 2, 1) := by decide +kernel
theorem dX6_triedBetween_31 : decode cX6_triedBetween 31 = .ok (.if_icmp .gt 10, 3) := by decide +kernel
theorem dX6_triedBetween_34 : decode cX6_triedBetween 34 = .ok (.iload_n 3, 1) := by decide +kernel
theorem dX6_triedBetween_35 : decode cX6_triedBetween 35 = .ok (.iconst 1, 1) := by decide +kernel
theorem dX6_triedBetween_36 : decode cX6_triedBetween 36 = .ok (.iload 4, 2) := by decide +kernel
theorem dX6_triedBetween_38 : decode cX6_triedBetween 38 = .ok (.ishl, 1) := by decide +kernel
theorem dX6_triedBetween_39 : decode cX6_triedBetween 39 = .ok (.ior, 1) := by decide +kernel
theorem dX6_triedBetween_40 : decode cX6_triedBetween 40 = .ok (.istore_n 3, 1) := by decide +kernel
theorem dX6_triedBetween_41 : decode cX6_triedBetween 41 = .ok (.iinc 4 1, 3) := by decide +kernel
theorem dX6_triedBetween_44 : decode cX6_triedBetween 44 = .ok (.goto (-39), 3) := by decide +kernel
theorem dX6_triedBetween_47 : decode cX6_triedBetween 47 = .ok (.iload_n 3, 1) := by decide +kernel
theorem dX6_triedBetween_48 : decode cX6_triedBetween 48 = .ok (.ireturn, 1) := by decide +kernel
theorem dX7_init_0 : decode cX7_init 0 = .ok (.aload_n 0, 1) := by decide +kernel
theorem dX7_init_1 : decode cX7_init 1 = .ok (.invokespecial 3, 3) := by decide +kernel
theorem dX7_init_4 : decode cX7_init 4 = .ok (.aload_n 0, 1) := by decide +kernel
theorem dX7_init_5 : decode cX7_init 5 = .ok (.iconst 0, 1) := by decide +kernel
theorem dX7_init_6 : decode cX7_init 6 = .ok (.putfield 9, 3) := by decide +kernel
theorem dX7_init_9 : decode cX7_init 9 = .ok (.aload_n 0, 1) := by decide +kernel
theorem dX7_init_10 : decode cX7_init 10 = .ok (.iconst 0, 1) := by decide +kernel
theorem dX7_init_11 : decode cX7_init 11 = .ok (.putfield 15, 3) := by decide +kernel
theorem dX7_init_14 : decode cX7_init 14 = .ok (.aload_n 0, 1) := by decide +kernel
theorem dX7_init_15 : decode cX7_init 15 = .ok (.iconst (-1), 1) := by decide +kernel
theorem dX7_init_16 : decode cX7_init 16 = .ok (.putfield 18, 3) := by decide +kernel
theorem dX7_init_19 : decode cX7_init 19 = .ok (.aload_n 0, 1) := by decide +kernel
theorem dX7_init_20 : decode cX7_init 20 = .ok (.aload_n 1, 1) := by decide +kernel
theorem dX7_init_21 : decode cX7_init 21 = .ok (.putfield 21, 3) := by decide +kernel
theorem dX7_init_24 : decode cX7_init 24 = .ok (.aload_n 0, 1) := by decide +kernel
theorem dX7_init_25 : decode cX7_init 25 = .ok (.aload_n 2, 1) := by decide +kernel
theorem dX7_init_26 : decode cX7_init 26 = .ok (.putfield 25, 3) := by decide +kernel
theorem dX7_init_29 : decode cX7_init 29 = .ok (.aload_n 0, 1) := by decide +kernel
theorem dX7_init_30 : decode cX7_init 30 = .ok (.iload_n 3, 1) := by decide +kernel
theorem dX7_init_31 : decode cX7_init 31 = .ok (.putfield 28, 3) := by decide +kernel
theorem dX7_init_34 : decode cX7_init 34 = .ok (.aload_n 0, 1) := by decide +kernel
theorem dX7_init_35 : decode cX7_init 35 = .ok (.iload 4, 2) := by decide +kernel
theorem dX7_init_37 : decode cX7_init 37 = .ok (.putfield 31, 3) := by decide +kernel
theorem dX7_init_40 : decode cX7_init 40 = .ok (.aload_n 0, 1) := by decide +kernel
theorem dX7_init_41 : decode cX7_init 41 = .ok (.iload 5, 2) := by decide +kernel
theorem dX7_init_43 : decode cX7_init 43 = .ok (.newarray .int, 2) := by decide +kernel
theorem dX7_init_45 : decode cX7_init 45 = .ok (.putfield 34, 3) := by decide +kernel
theorem dX7_init_48 : decode cX7_init 48 = .ok (.aload_n 0, 1) := by decide +kernel
theorem dX7_init_49 : decode cX7_init 49 = .ok (.iload 4, 2) := by decide +kernel
theorem dX7_init_51 : decode cX7_init 51 = .ok (.aload_n 1, 1) := by decide +kernel
theorem dX7_init_52 : decode cX7_init 52 = .ok (.arraylength, 1) := by decide +kernel
theorem dX7_init_53 : decode cX7_init 53 = .ok (.imul, 1) := by decide +kernel
theorem dX7_init_54 : decode cX7_init 54 = .ok (.newarray .int, 2) := by decide +kernel
theorem dX7_init_56 : decode cX7_init 56 = .ok (.putfield 37, 3) := by decide +kernel
theorem dX7_init_59 : decode cX7_init 59 = .ok (.return_, 1) := by decide +kernel
theorem dX7_isFull_0 : decode cX7_isFull 0 = .ok (.aload_n 0, 1) := by decide +kernel
theorem dX7_isFull_1 : decode cX7_isFull 1 = .ok (.getfield 9, 3) := by decide +kernel
theorem dX7_isFull_4 : decode cX7_isFull 4 = .ok (.aload_n 0, 1) := by decide +kernel
theorem dX7_isFull_5 : decode cX7_isFull 5 = .ok (.getfield 34, 3) := by decide +kernel
theorem dX7_isFull_8 : decode cX7_isFull 8 = .ok (.arraylength, 1) := by decide +kernel
theorem dX7_isFull_9 : decode cX7_isFull 9 = .ok (.if_icmp .lt 7, 3) := by decide +kernel
theorem dX7_isFull_12 : decode cX7_isFull 12 = .ok (.iconst 1, 1) := by decide +kernel
theorem dX7_isFull_13 : decode cX7_isFull 13 = .ok (.goto 4, 3) := by decide +kernel
theorem dX7_isFull_16 : decode cX7_isFull 16 = .ok (.iconst 0, 1) := by decide +kernel
theorem dX7_isFull_17 : decode cX7_isFull 17 = .ok (.ireturn, 1) := by decide +kernel
theorem dX7_append_0 : decode cX7_append 0 = .ok (.aload_n 0, 1) := by decide +kernel
theorem dX7_append_1 : decode cX7_append 1 = .ok (.getfield 9, 3) := by decide +kernel
theorem dX7_append_4 : decode cX7_append 4 = .ok (.aload_n 0, 1) := by decide +kernel
theorem dX7_append_5 : decode cX7_append 5 = .ok (.getfield 34, 3) := by decide +kernel
theorem dX7_append_8 : decode cX7_append 8 = .ok (.arraylength, 1) := by decide +kernel
theorem dX7_append_9 : decode cX7_append 9 = .ok (.if_icmp .ge 23, 3) := by decide +kernel
theorem dX7_append_12 : decode cX7_append 12 = .ok (.aload_n 0, 1) := by decide +kernel
theorem dX7_append_13 : decode cX7_append 13 = .ok (.getfield 34, 3) := by decide +kernel
theorem dX7_append_16 : decode cX7_append 16 = .ok (.aload_n 0, 1) := by decide +kernel
theorem dX7_append_17 : decode cX7_append 17 = .ok (.getfield 9, 3) := by decide +kernel
theorem dX7_append_20 : decode cX7_append 20 = .ok (.iload_n 1, 1) := by decide +kernel
theorem dX7_append_21 : decode cX7_append 21 = .ok (.iastore, 1) := by decide +kernel
theorem dX7_append_22 : decode cX7_append 22 = .ok (.aload_n 0, 1) := by decide +kernel
theorem dX7_append_23 : decode cX7_append 23 = .ok (.dup, 1) := by decide +kernel
theorem dX7_append_24 : decode cX7_append 24 = .ok (.getfield 9, 3) := by decide +kernel
theorem dX7_append_27 : decode cX7_append 27 = .ok (.iconst 1, 1) := by decide +kernel
theorem dX7_append_28 : decode cX7_append 28 = .ok (.iadd, 1) := by decide +kernel
theorem dX7_append_29 : decode cX7_append 29 = .ok (.putfield 9, 3) := by decide +kernel
theorem dX7_append_32 : decode cX7_append 32 = .ok (.return_, 1) := by decide +kernel
theorem dX7_shorten_0 : decode cX7_shorten 0 = .ok (.aload_n 0, 1) := by decide +kernel
theorem dX7_shorten_1 : decode cX7_shorten 1 = .ok (.iload_n 1, 1) := by decide +kernel
theorem dX7_shorten_2 : decode cX7_shorten 2 = .ok (.putfield 9, 3) := by decide +kernel
theorem dX7_shorten_5 : decode cX7_shorten 5 = .ok (.return_, 1) := by decide +kernel
theorem dX7_part_0 : decode cX7_part 0 = .ok (.aload_n 0, 1) := by decide +kernel
theorem dX7_part_1 : decode cX7_part 1 = .ok (.getfield 37, 3) := by decide +kernel
theorem dX7_part_4 : decode cX7_part 4 = .ok (.iload_n 1, 1) := by decide +kernel
theorem dX7_part_5 : decode cX7_part 5 = .ok (.aload_n 0, 1) := by decide +kernel
theorem dX7_part_6 : decode cX7_part 6 = .ok (.getfield 21, 3) := by decide +kernel
theorem dX7_part_9 : decode cX7_part 9 = .ok (.arraylength, 1) := by decide +kernel
theorem dX7_part_10 : decode cX7_part 10 = .ok (.imul, 1) := by decide +kernel
theorem dX7_part_11 : decode cX7_part 11 = .ok (.iload_n 2, 1) := by decide +kernel
theorem dX7_part_12 : decode cX7_part 12 = .ok (.iadd, 1) := by decide +kernel
theorem dX7_part_13 : decode cX7_part 13 = .ok (.iaload, 1) := by decide +kernel
theorem dX7_part_14 : decode cX7_part 14 = .ok (.ireturn, 1) := by decide +kernel
theorem dX7_parse_0 : decode cX7_parse 0 = .ok (.aload_n 0, 1) := by decide +kernel
theorem dX7_parse_1 : decode cX7_parse 1 = .ok (.iconst 0, 1) := by decide +kernel
theorem dX7_parse_2 : decode cX7_parse 2 = .ok (.putfield 15, 3) := by decide +kernel
theorem dX7_parse_5 : decode cX7_parse 5 = .ok (.aload_n 0, 1) := by decide +kernel
theorem dX7_parse_6 : decode cX7_parse 6 = .ok (.iconst (-1), 1) := by decide +kernel
theorem dX7_parse_7 : decode cX7_parse 7 = .ok (.putfield 18, 3) := by decide +kernel
theorem dX7_parse_10 : decode cX7_parse 10 = .ok (.aload_n 0, 1) := by decide +kernel
theorem dX7_parse_11 : decode cX7_parse 11 = .ok (.getfield 9, 3) := by decide +kernel
theorem dX7_parse_14 : decode cX7_parse 14 = .ok (.ifCond .ne 4, 3) := by decide +kernel
theorem dX7_parse_17 : decode cX7_parse 17 = .ok (.return_, 1) := by decide +kernel
theorem dX7_parse_18 : decode cX7_parse 18 = .ok (.aload_n 0, 1) := by decide +kernel
theorem dX7_parse_19 : decode cX7_parse 19 = .ok (.getfield 37, 3) := by decide +kernel
theorem dX7_parse_22 : decode cX7_parse 22 = .ok (.iconst (-1), 1) := by decide +kernel
theorem dX7_parse_23 : decode cX7_parse 23 = .ok (.invokestatic 40, 3) := by decide +kernel
theorem dX7_parse_26 : decode cX7_parse 26 = .ok (.iconst 0, 1) := by decide +kernel
theorem dX7_parse_27 : decode cX7_parse 27 = .ok (.istore_n 1, 1) := by decide +kernel
theorem dX7_parse_28 : decode cX7_parse 28 = .ok (.iconst 0, 1) := by decide +kernel
theorem dX7_parse_29 : decode cX7_parse 29 = .ok (.istore_n 2, 1) := by decide +kernel
theorem dX7_parse_30 : decode cX7_parse 30 = .ok (.iconst 0, 1) := by decide +kernel
theorem dX7_parse_31 : decode cX7_parse 31 = .ok (.istore_n 3, 1) := by decide +kernel
theorem dX7_parse_32 : decode cX7_parse 32 = .ok (.iload_n 3, 1) := by decide +kernel
theorem dX7_parse_33 : decode cX7_parse 33 = .ok (.aload_n 0, 1) := by decide +kernel
theorem dX7_parse_34 : decode cX7_parse 34 = .ok (.getfield 9, 3) := by decide +kernel
theorem dX7_parse_37 : decode cX7_parse 37 = .ok (.if_icmp .ge 114, 3) := by decide +kernel
theorem dX7_parse_40 : decode cX7_parse 40 = .ok (.aload_n 0, 1) := by decide +kernel
theorem dX7_parse_41 : decode cX7_parse 41 = .ok (.getfield 34, 3) := by decide +kernel
theorem dX7_parse_44 : decode cX7_parse 44 = .ok (.iload_n 3, 1) := by decide +kernel
theorem dX7_parse_45 : decode cX7_parse 45 = .ok (.iaload, 1) := by decide +kernel
theorem dX7_parse_46 : decode cX7_parse 46 = .ok (.istore 4, 2) := by decide +kernel
theorem dX7_parse_48 : decode cX7_parse 48 = .ok (.iload_n 2, 1) := by decide +kernel
theorem dX7_parse_49 : decode cX7_parse 49 = .ok (.aload_n 0, 1) := by decide +kernel
theorem dX7_parse_50 : decode cX7_parse 50 = .ok (.getfield 28, 3) := by decide +kernel
theorem dX7_parse_53 : decode cX7_parse 53 = .ok (.if_icmp .lt 18, 3) := by decide +kernel
theorem dX7_parse_56 : decode cX7_parse 56 = .ok (.iload 4, 2) := by decide +kernel
theorem dX7_parse_58 : decode cX7_parse 58 = .ok (.bipush 59, 2) := by decide +kernel
theorem dX7_parse_60 : decode cX7_parse 60 = .ok (.if_icmp .ne 11, 3) := by decide +kernel
theorem dX7_parse_63 : decode cX7_parse 63 = .ok (.iinc 1 1, 3) := by decide +kernel
theorem dX7_parse_66 : decode cX7_parse 66 = .ok (.iconst 0, 1) := by decide +kernel
theorem dX7_parse_67 : decode cX7_parse 67 = .ok (.istore_n 2, 1) := by decide +kernel
theorem dX7_parse_68 : decode cX7_parse 68 = .ok (.goto 77, 3) := by decide +kernel
theorem dX7_parse_71 : decode cX7_parse 71 = .ok (.iload_n 1, 1) := by decide +kernel
theorem dX7_parse_72 : decode cX7_parse 72 = .ok (.aload_n 0, 1) := by decide +kernel
theorem dX7_parse_73 : decode cX7_parse 73 = .ok (.getfield 31, 3) := by decide +kernel
theorem dX7_parse_76 : decode cX7_parse 76 = .ok (.if_icmp .ge 63, 3) := by decide +kernel
theorem dX7_parse_79 : decode cX7_parse 79 = .ok (.iload_n 2, 1) := by decide +kernel
theorem dX7_parse_80 : decode cX7_parse 80 = .ok (.aload_n 0, 1) := by decide +kernel
theorem dX7_parse_81 : decode cX7_parse 81 = .ok (.getfield 21, 3) := by decide +kernel
theorem dX7_parse_84 : decode cX7_parse 84 = .ok (.arraylength, 1) := by decide +kernel
theorem dX7_parse_85 : decode cX7_parse 85 = .ok (.if_icmp .ge 54, 3) := by decide +kernel
theorem dX7_parse_88 : decode cX7_parse 88 = .ok (.iload 4, 2) := by decide +kernel
theorem dX7_parse_90 : decode cX7_parse 90 = .ok (.aload_n 0, 1) := by decide +kernel
theorem dX7_parse_91 : decode cX7_parse 91 = .ok (.getfield 21, 3) := by decide +kernel
theorem dX7_parse_94 : decode cX7_parse 94 = .ok (.iload_n 2, 1) := by decide +kernel
theorem dX7_parse_95 : decode cX7_parse 95 = .ok (.iaload, 1) := by decide +kernel
theorem dX7_parse_96 : decode cX7_parse 96 = .ok (.if_icmp .lt 43, 3) := by decide +kernel
theorem dX7_parse_99 : decode cX7_parse 99 = .ok (.iload 4, 2) := by decide +kernel
theorem dX7_parse_101 : decode cX7_parse 101 = .ok (.aload_n 0, 1) := by decide +kernel
theorem dX7_parse_102 : decode cX7_parse 102 = .ok (.getfield 25, 3) := by decide +kernel
theorem dX7_parse_105 : decode cX7_parse 105 = .ok (.iload_n 2, 1) := by decide +kernel
theorem dX7_parse_106 : decode cX7_parse 106 = .ok (.iaload, 1) := by decide +kernel
theorem dX7_parse_107 : decode cX7_parse 107 = .ok (.if_icmp .gt 32, 3) := by decide +kernel
theorem dX7_parse_110 : decode cX7_parse 110 = .ok (.aload_n 0, 1) := by decide +kernel
theorem dX7_parse_111 : decode cX7_parse 111 = .ok (.getfield 37, 3) := by decide +kernel
theorem dX7_parse_114 : decode cX7_parse 114 = .ok (.iload_n 1, 1) := by decide +kernel
theorem dX7_parse_115 : decode cX7_parse 115 = .ok (.aload_n 0, 1) := by decide +kernel
theorem dX7_parse_116 : decode cX7_parse 116 = .ok (.getfield 21, 3) := by decide +kernel
theorem dX7_parse_119 : decode cX7_parse 119 = .ok (.arraylength, 1) := by decide +kernel
theorem dX7_parse_120 : decode cX7_parse 120 = .ok (.imul, 1) := by decide +kernel
theorem dX7_parse_121 : decode cX7_parse 121 = .ok (.iload_n 2, 1) := by decide +kernel
theorem dX7_parse_122 : decode cX7_parse 122 = .ok (.iadd, 1) := by decide +kernel
theorem dX7_parse_123 : decode cX7_parse 123 = .ok (.iload 4, 2) := by decide +kernel
theorem dX7_parse_125 : decode cX7_parse 125 = .ok (.aload_n 0, 1) := by decide +kernel
theorem dX7_parse_126 : decode cX7_parse 126 = .ok (.getfield 21, 3) := by decide +kernel
theorem dX7_parse_129 : decode cX7_parse 129 = .ok (.iload_n 2, 1) := by decide +kernel
theorem dX7_parse_130 : decode cX7_parse 130 = .ok (.iaload, 1) := by decide +kernel
theorem dX7_parse_131 : decode cX7_parse 131 = .ok (.isub, 1) := by decide +kernel
theorem dX7_parse_132 : decode cX7_parse 132 = .ok (.iastore, 1) := by decide +kernel
theorem dX7_parse_133 : decode cX7_parse 133 = .ok (.iinc 2 1, 3) := by decide +kernel
theorem dX7_parse_136 : decode cX7_parse 136 = .ok (.goto 9, 3) := by decide +kernel
theorem dX7_parse_139 : decode cX7_parse 139 = .ok (.aload_n 0, 1) := by decide +kernel
theorem dX7_parse_140 : decode cX7_parse 140 = .ok (.iload_n 3, 1) := by decide +kernel
theorem dX7_parse_141 : decode cX7_parse 141 = .ok (.putfield 18, 3) := by decide +kernel
theorem dX7_parse_144 : decode cX7_parse 144 = .ok (.return_, 1) := by decide +kernel
theorem dX7_parse_145 : decode cX7_parse 145 = .ok (.iinc 3 1, 3) := by decide +kernel
theorem dX7_parse_148 : decode cX7_parse 148 = .ok (.goto (-116), 3) := by decide +kernel
theorem dX7_parse_151 : decode cX7_parse 151 = .ok (.iload_n 2, 1) := by decide +kernel
theorem dX7_parse_152 : decode cX7_parse 152 = .ok (.aload_n 0, 1) := by decide +kernel
theorem dX7_parse_153 : decode cX7_parse 153 = .ok (.getfield 28, 3) := by decide +kernel
theorem dX7_parse_156 : decode cX7_parse 156 = .ok (.if_icmp .ge 14, 3) := by decide +kernel
theorem dX7_parse_159 : decode cX7_parse 159 = .ok (.aload_n 0, 1) := by decide +kernel
theorem dX7_parse_160 : decode cX7_parse 160 = .ok (.aload_n 0, 1) := by decide +kernel
theorem dX7_parse_161 : decode cX7_parse 161 = .ok (.getfield 9, 3) := by decide +kernel
theorem dX7_parse_164 : decode cX7_parse 164 = .ok (.putfield 18, 3) := by decide +kernel
theorem dX7_parse_167 : decode cX7_parse 167 = .ok (.goto 10, 3) := by decide +kernel
theorem dX7_parse_170 : decode cX7_parse 170 = .ok (.aload_n 0, 1) := by decide +kernel
theorem dX7_parse_171 : decode cX7_parse 171 = .ok (.iload_n 1, 1) := by decide +kernel
theorem dX7_parse_172 : decode cX7_parse 172 = .ok (.iconst 1, 1) := by decide +kernel
theorem dX7_parse_173 : decode cX7_parse 173 = .ok (.iadd, 1) := by decide +kernel
theorem dX7_parse_174 : decode cX7_parse 174 = .ok (.putfield 15, 3) := by decide +kernel
theorem dX7_parse_177 : decode cX7_parse 177 = .ok (.return_, 1) := by decide +kernel
theorem dX8_init_0 : decode cX8_init 0 = .ok (.aload_n 0, 1) := by decide +kernel
theorem dX8_init_1 : decode cX8_init 1 = .ok (.invokespecial 3, 3) := by decide +kernel
theorem dX8_init_4 : decode cX8_init 4 = .ok (.aload_n 0, 1) := by decide +kernel
theorem dX8_init_5 : decode cX8_init 5 = .ok (.bipush 60, 2) := by decide +kernel
theorem dX8_init_7 : decode cX8_init 7 = .ok (.newarray .int, 2) := by decide +kernel
theorem dX8_init_9 : decode cX8_init 9 = .ok (.putfield 9, 3) := by decide +kernel
theorem dX8_init_12 : decode cX8_init 12 = .ok (.aload_n 0, 1) := by decide +kernel
theorem dX8_init_13 : decode cX8_init 13 = .ok (.iconst 0, 1) := by decide +kernel
theorem dX8_init_14 : decode cX8_init 14 = .ok (.putfield 15, 3) := by decide +kernel
theorem dX8_init_17 : decode cX8_init 17 = .ok (.aload_n 0, 1) := by decide +kernel
theorem dX8_init_18 : decode cX8_init 18 = .ok (.iconst (-1), 1) := by decide +kernel
theorem dX8_init_19 : decode cX8_init 19 = .ok (.putfield 19, 3) := by decide +kernel
theorem dX8_init_22 : decode cX8_init 22 = .ok (.return_, 1) := by decide +kernel
theorem dX8_isLost_0 : decode cX8_isLost 0 = .ok (.aload_n 0, 1) := by decide +kernel
theorem dX8_isLost_1 : decode cX8_isLost 1 = .ok (.getfield 19, 3) := by decide +kernel
theorem dX8_isLost_4 : decode cX8_isLost 4 = .ok (.iconst (-1), 1) := by decide +kernel
theorem dX8_isLost_5 : decode cX8_isLost 5 = .ok (.if_icmp .ne 7, 3) := by decide +kernel
theorem dX8_isLost_8 : decode cX8_isLost 8 = .ok (.iconst 1, 1) := by decide +kernel
theorem dX8_isLost_9 : decode cX8_isLost 9 = .ok (.goto 4, 3) := by decide +kernel
theorem dX8_isLost_12 : decode cX8_isLost 12 = .ok (.iconst 0, 1) := by decide +kernel
theorem dX8_isLost_13 : decode cX8_isLost 13 = .ok (.ireturn, 1) := by decide +kernel
theorem dX8_renew_0 : decode cX8_renew 0 = .ok (.aload_n 0, 1) := by decide +kernel
theorem dX8_renew_1 : decode cX8_renew 1 = .ok (.iload_n 1, 1) := by decide +kernel
theorem dX8_renew_2 : decode cX8_renew 2 = .ok (.putfield 15, 3) := by decide +kernel
theorem dX8_renew_5 : decode cX8_renew 5 = .ok (.aload_n 0, 1) := by decide +kernel
theorem dX8_renew_6 : decode cX8_renew 6 = .ok (.iload_n 2, 1) := by decide +kernel
theorem dX8_renew_7 : decode cX8_renew 7 = .ok (.putfield 19, 3) := by decide +kernel
theorem dX8_renew_10 : decode cX8_renew 10 = .ok (.aload_n 0, 1) := by decide +kernel
theorem dX8_renew_11 : decode cX8_renew 11 = .ok (.getfield 9, 3) := by decide +kernel
theorem dX8_renew_14 : decode cX8_renew 14 = .ok (.iconst 0, 1) := by decide +kernel
theorem dX8_renew_15 : decode cX8_renew 15 = .ok (.invokestatic 22, 3) := by decide +kernel
theorem dX8_renew_18 : decode cX8_renew 18 = .ok (.return_, 1) := by decide +kernel
theorem dX8_put_0 : decode cX8_put 0 = .ok (.iload_n 1, 1) := by decide +kernel
theorem dX8_put_1 : decode cX8_put 1 = .ok (.ifCond .lt 11, 3) := by decide +kernel
theorem dX8_put_4 : decode cX8_put 4 = .ok (.iload_n 1, 1) := by decide +kernel
theorem dX8_put_5 : decode cX8_put 5 = .ok (.aload_n 0, 1) := by decide +kernel
theorem dX8_put_6 : decode cX8_put 6 = .ok (.getfield 19, 3) := by decide +kernel
theorem dX8_put_9 : decode cX8_put 9 = .ok (.if_icmp .lt 4, 3) := by decide +kernel
theorem dX8_put_12 : decode cX8_put 12 = .ok (.return_, 1) := by decide +kernel
theorem dX8_put_13 : decode cX8_put 13 = .ok (.aload_n 0, 1) := by decide +kernel
theorem dX8_put_14 : decode cX8_put 14 = .ok (.getfield 15, 3) := by decide +kernel
theorem dX8_put_17 : decode cX8_put 17 = .ok (.lookupswitch 49 #[(0, 27), (1, 38)], 27) := by decide +kernel
theorem dX8_put_44 : decode cX8_put 44 = .ok (.aload_n 0, 1) := by decide +kernel
theorem dX8_put_45 : decode cX8_put 45 = .ok (.getfield 9, 3) := by decide +kernel
theorem dX8_put_48 : decode cX8_put 48 = .ok (.iload_n 1, 1) := by decide +kernel
theorem dX8_put_49 : decode cX8_put 49 = .ok (.iload_n 2, 1) := by decide +kernel
theorem dX8_put_50 : decode cX8_put 50 = .ok (.i2b, 1) := by decide +kernel
theorem dX8_put_51 : decode cX8_put 51 = .ok (.iastore, 1) := by decide +kernel
theorem dX8_put_52 : decode cX8_put 52 = .ok (.goto 21, 3) := by decide +kernel
theorem dX8_put_55 : decode cX8_put 55 = .ok (.aload_n 0, 1) := by decide +kernel
theorem dX8_put_56 : decode cX8_put 56 = .ok (.getfield 9, 3) := by decide +kernel
theorem dX8_put_59 : decode cX8_put 59 = .ok (.iload_n 1, 1) := by decide +kernel
theorem dX8_put_60 : decode cX8_put 60 = .ok (.iload_n 2, 1) := by decide +kernel
theorem dX8_put_61 : decode cX8_put 61 = .ok (.i2s, 1) := by decide +kernel
theorem dX8_put_62 : decode cX8_put 62 = .ok (.iastore, 1) := by decide +kernel
theorem dX8_put_63 : decode cX8_put 63 = .ok (.goto 10, 3) := by decide +kernel
theorem dX8_put_66 : decode cX8_put 66 = .ok (.aload_n 0, 1) := by decide +kernel
theorem dX8_put_67 : decode cX8_put 67 = .ok (.getfield 9, 3) := by decide +kernel
theorem dX8_put_70 : decode cX8_put 70 = .ok (.iload_n 1, 1) := by decide +kernel
theorem dX8_put_71 : decode cX8_put 71 = .ok (.iload_n 2, 1) := by decide +kernel
theorem dX8_put_72 : decode cX8_put 72 = .ok (.iastore, 1) := by decide +kernel
theorem dX8_put_73 : decode cX8_put 73 = .ok (.return_, 1) := by decide +kernel
theorem dX8_hasRun_0 : decode cX8_hasRun 0 = .ok (.iload_n 1, 1) := by decide +kernel
theorem dX8_hasRun_1 : decode cX8_hasRun 1 = .ok (.ifCond .lt 29, 3) := by decide +kernel
theorem dX8_hasRun_4 : decode cX8_hasRun 4 = .ok (.iload_n 2, 1) := by decide +kernel
theorem dX8_hasRun_5 : decode cX8_hasRun 5 = .ok (.ifCond .lt 25, 3) := by decide +kernel
theorem dX8_hasRun_8 : decode cX8_hasRun 8 = .ok (.iload_n 2, 1) := by decide +kernel
theorem dX8_hasRun_9 : decode cX8_hasRun 9 = .ok (.aload_n 0, 1) := by decide +kernel
theorem dX8_hasRun_10 : decode cX8_hasRun 10 = .ok (.getfield 19, 3) := by decide +kernel
theorem dX8_hasRun_13 : decode cX8_hasRun 13 = .ok (.if_icmp .gt 17, 3) := by decide +kernel
theorem dX8_hasRun_16 : decode cX8_hasRun 16 = .ok (.iload_n 1, 1) := by decide +kernel
theorem dX8_hasRun_17 : decode cX8_hasRun 17 = .ok (.aload_n 0, 1) := by decide +kernel
theorem dX8_hasRun_18 : decode cX8_hasRun 18 = .ok (.getfield 19, 3) := by decide +kernel
theorem dX8_hasRun_21 : decode cX8_hasRun 21 = .ok (.iload_n 2, 1) := by decide +kernel
theorem dX8_hasRun_22 : decode cX8_hasRun 22 = .ok (.isub, 1) := by decide +kernel
theorem dX8_hasRun_23 : decode cX8_hasRun 23 = .ok (.if_icmp .gt 7, 3) := by decide +kernel
theorem dX8_hasRun_26 : decode cX8_hasRun 26 = .ok (.iconst 1, 1) := by decide +kernel
theorem dX8_hasRun_27 : decode cX8_hasRun 27 = .ok (.goto 4, 3) := by decide +kernel
theorem dX8_hasRun_30 : decode cX8_hasRun 30 = .ok (.iconst 0, 1) := by decide +kernel
theorem dX8_hasRun_31 : decode cX8_hasRun 31 = .ok (.ireturn, 1) := by decide +kernel
theorem dX9_init_0 : decode cX9_init 0 = .ok (.aload_n 0, 1) := by decide +kernel
theorem dX9_init_1 : decode cX9_init 1 = .ok (.invokespecial 3, 3) := by decide +kernel
theorem dX9_init_4 : decode cX9_init 4 = .ok (.aload_n 0, 1) := by decide +kernel
theorem dX9_init_5 : decode cX9_init 5 = .ok (.new 9, 3) := by decide +kernel
theorem dX9_init_8 : decode cX9_init 8 = .ok (.dup, 1) := by decide +kernel
theorem dX9_init_9 : decode cX9_init 9 = .ok (.getstatic 11, 3) := by decide +kernel
theorem dX9_init_12 : decode cX9_init 12 = .ok (.getstatic 15, 3) := by decide +kernel
theorem dX9_init_15 : decode cX9_init 15 = .ok (.iconst 4, 1) := by decide +kernel
theorem dX9_init_16 : decode cX9_init 16 = .ok (.bipush 12, 2) := by decide +kernel
theorem dX9_init_18 : decode cX9_init 18 = .ok (.bipush 71, 2) := by decide +kernel
theorem dX9_init_20 : decode cX9_init 20 = .ok (.invokespecial 18, 3) := by decide +kernel
theorem dX9_init_23 : decode cX9_init 23 = .ok (.putfield 21, 3) := by decide +kernel
theorem dX9_init_26 : decode cX9_init 26 = .ok (.aload_n 0, 1) := by decide +kernel
theorem dX9_init_27 : decode cX9_init 27 = .ok (.new 9, 3) := by decide +kernel
theorem dX9_init_30 : decode cX9_init 30 = .ok (.dup, 1) := by decide +kernel
theorem dX9_init_31 : decode cX9_init 31 = .ok (.getstatic 25, 3) := by decide +kernel
theorem dX9_init_34 : decode cX9_init 34 = .ok (.getstatic 28, 3) := by decide +kernel
theorem dX9_init_37 : decode cX9_init 37 = .ok (.iconst 3, 1) := by decide +kernel
theorem dX9_init_38 : decode cX9_init 38 = .ok (.bipush 12, 2) := by decide +kernel
theorem dX9_init_40 : decode cX9_init 40 = .ok (.bipush 47, 2) := by decide +kernel
theorem dX9_init_42 : decode cX9_init 42 = .ok (.invokespecial 18, 3) := by decide +kernel
theorem dX9_init_45 : decode cX9_init 45 = .ok (.putfield 31, 3) := by decide +kernel
theorem dX9_init_48 : decode cX9_init 48 = .ok (.aload_n 0, 1) := by decide +kernel
theorem dX9_init_49 : decode cX9_init 49 = .ok (.new 34, 3) := by decide +kernel
theorem dX9_init_52 : decode cX9_init 52 = .ok (.dup, 1) := by decide +kernel
theorem dX9_init_53 : decode cX9_init 53 = .ok (.invokespecial 36, 3) := by decide +kernel
theorem dX9_init_56 : decode cX9_init 56 = .ok (.putfield 37, 3) := by decide +kernel
theorem dX9_init_59 : decode cX9_init 59 = .ok (.aload_n 0, 1) := by decide +kernel
theorem dX9_init_60 : decode cX9_init 60 = .ok (.new 41, 3) := by decide +kernel
theorem dX9_init_63 : decode cX9_init 63 = .ok (.dup, 1) := by decide +kernel
theorem dX9_init_64 : decode cX9_init 64 = .ok (.invokespecial 43, 3) := by decide +kernel
theorem dX9_init_67 : decode cX9_init 67 = .ok (.putfield 44, 3) := by decide +kernel
theorem dX9_init_70 : decode cX9_init 70 = .ok (.aload_n 0, 1) := by decide +kernel
theorem dX9_init_71 : decode cX9_init 71 = .ok (.new 41, 3) := by decide +kernel
theorem dX9_init_74 : decode cX9_init 74 = .ok (.dup, 1) := by decide +kernel
theorem dX9_init_75 : decode cX9_init 75 = .ok (.invokespecial 43, 3) := by decide +kernel
theorem dX9_init_78 : decode cX9_init 78 = .ok (.putfield 48, 3) := by decide +kernel
theorem dX9_init_81 : decode cX9_init 81 = .ok (.aload_n 0, 1) := by decide +kernel
theorem dX9_init_82 : decode cX9_init 82 = .ok (.new 51, 3) := by decide +kernel
theorem dX9_init_85 : decode cX9_init 85 = .ok (.dup, 1) := by decide +kernel
theorem dX9_init_86 : decode cX9_init 86 = .ok (.invokespecial 53, 3) := by decide +kernel
theorem dX9_init_89 : decode cX9_init 89 = .ok (.putfield 54, 3) := by decide +kernel
theorem dX9_init_92 : decode cX9_init 92 = .ok (.aload_n 0, 1) := by decide +kernel
theorem dX9_init_93 : decode cX9_init 93 = .ok (.new 51, 3) := by decide +kernel
theorem dX9_init_96 : decode cX9_init 96 = .ok (.dup, 1) := by decide +kernel
theorem dX9_init_97 : decode cX9_init 97 = .ok (.invokespecial 53, 3) := by decide +kernel
theorem dX9_init_100 : decode cX9_init 100 = .ok (.putfield 58, 3) := by decide +kernel
theorem dX9_init_103 : decode cX9_init 103 = .ok (.aload_n 0, 1) := by decide +kernel
theorem dX9_init_104 : decode cX9_init 104 = .ok (.new 61, 3) := by decide +kernel
theorem dX9_init_107 : decode cX9_init 107 = .ok (.dup, 1) := by decide +kernel
theorem dX9_init_108 : decode cX9_init 108 = .ok (.invokespecial 63, 3) := by decide +kernel
theorem dX9_init_111 : decode cX9_init 111 = .ok (.putfield 64, 3) := by decide +kernel
theorem dX9_init_114 : decode cX9_init 114 = .ok (.aload_n 0, 1) := by decide +kernel
theorem dX9_init_115 : decode cX9_init 115 = .ok (.new 68, 3) := by decide +kernel
theorem dX9_init_118 : decode cX9_init 118 = .ok (.dup, 1) := by decide +kernel
theorem dX9_init_119 : decode cX9_init 119 = .ok (.invokespecial 70, 3) := by decide +kernel
theorem dX9_init_122 : decode cX9_init 122 = .ok (.putfield 71, 3) := by decide +kernel
theorem dX9_init_125 : decode cX9_init 125 = .ok (.aload_n 0, 1) := by decide +kernel
theorem dX9_init_126 : decode cX9_init 126 = .ok (.new 75, 3) := by decide +kernel
theorem dX9_init_129 : decode cX9_init 129 = .ok (.dup, 1) := by decide +kernel
theorem dX9_init_130 : decode cX9_init 130 = .ok (.invokespecial 77, 3) := by decide +kernel
theorem dX9_init_133 : decode cX9_init 133 = .ok (.putfield 78, 3) := by decide +kernel
theorem dX9_init_136 : decode cX9_init 136 = .ok (.aload_n 0, 1) := by decide +kernel
theorem dX9_init_137 : decode cX9_init 137 = .ok (.new 82, 3) := by decide +kernel
theorem dX9_init_140 : decode cX9_init 140 = .ok (.dup, 1) := by decide +kernel
theorem dX9_init_141 : decode cX9_init 141 = .ok (.invokespecial 84, 3) := by decide +kernel
theorem dX9_init_144 : decode cX9_init 144 = .ok (.putfield 85, 3) := by decide +kernel
theorem dX9_init_147 : decode cX9_init 147 = .ok (.aload_n 0, 1) := by decide +kernel
theorem dX9_init_148 : decode cX9_init 148 = .ok (.iconst 4, 1) := by decide +kernel
theorem dX9_init_149 : decode cX9_init 149 = .ok (.anewarray 89, 3) := by decide +kernel
theorem dX9_init_152 : decode cX9_init 152 = .ok (.putfield 91, 3) := by decide +kernel
theorem dX9_init_155 : decode cX9_init 155 = .ok (.aload_n 0, 1) := by decide +kernel
theorem dX9_init_156 : decode cX9_init 156 = .ok (.iconst 0, 1) := by decide +kernel
theorem dX9_init_157 : decode cX9_init 157 = .ok (.putfield 95, 3) := by decide +kernel
theorem dX9_init_160 : decode cX9_init 160 = .ok (.aload_n 0, 1) := by decide +kernel
theorem dX9_init_161 : decode cX9_init 161 = .ok (.iconst 0, 1) := by decide +kernel
theorem dX9_init_162 : decode cX9_init 162 = .ok (.putfield 99, 3) := by decide +kernel
theorem dX9_init_165 : decode cX9_init 165 = .ok (.iconst 0, 1) := by decide +kernel
theorem dX9_init_166 : decode cX9_init 166 = .ok (.istore_n 1, 1) := by decide +kernel
theorem dX9_init_167 : decode cX9_init 167 = .ok (.iload_n 1, 1) := by decide +kernel
theorem dX9_init_168 : decode cX9_init 168 = .ok (.iconst 4, 1) := by decide +kernel
theorem dX9_init_169 : decode cX9_init 169 = .ok (.if_icmp .ge 22, 3) := by decide +kernel
theorem dX9_init_172 : decode cX9_init 172 = .ok (.aload_n 0, 1) := by decide +kernel
theorem dX9_init_173 : decode cX9_init 173 = .ok (.getfield 91, 3) := by decide +kernel
theorem dX9_init_176 : decode cX9_init 176 = .ok (.iload_n 1, 1) := by decide +kernel
theorem dX9_init_177 : decode cX9_init 177 = .ok (.new 89, 3) := by decide +kernel
theorem dX9_init_180 : decode cX9_init 180 = .ok (.dup, 1) := by decide +kernel
theorem dX9_init_181 : decode cX9_init 181 = .ok (.invokespecial 103, 3) := by decide +kernel
theorem dX9_init_184 : decode cX9_init 184 = .ok (.aastore, 1) := by decide +kernel
theorem dX9_init_185 : decode cX9_init 185 = .ok (.iinc 1 1, 3) := by decide +kernel
theorem dX9_init_188 : decode cX9_init 188 = .ok (.goto (-21), 3) := by decide +kernel
theorem dX9_init_191 : decode cX9_init 191 = .ok (.return_, 1) := by decide +kernel
theorem dX9_type_0 : decode cX9_type 0 = .ok (.iload_n 1, 1) := by decide +kernel
theorem dX9_type_1 : decode cX9_type 1 = .ok (.iconst 2, 1) := by decide +kernel
theorem dX9_type_2 : decode cX9_type 2 = .ok (.invokestatic 104, 3) := by decide +kernel
theorem dX9_type_5 : decode cX9_type 5 = .ok (.ifCond .eq 13, 3) := by decide +kernel
theorem dX9_type_8 : decode cX9_type 8 = .ok (.iload_n 2, 1) := by decide +kernel
theorem dX9_type_9 : decode cX9_type 9 = .ok (.sipush 256, 3) := by decide +kernel
theorem dX9_type_12 : decode cX9_type 12 = .ok (.invokestatic 104, 3) := by decide +kernel
theorem dX9_type_15 : decode cX9_type 15 = .ok (.ifCond .ne 6, 3) := by decide +kernel
theorem dX9_type_18 : decode cX9_type 18 = .ok (.bipush (-2), 2) := by decide +kernel
theorem dX9_type_20 : decode cX9_type 20 = .ok (.ireturn, 1) := by decide +kernel
theorem dX9_type_21 : decode cX9_type 21 = .ok (.aload_n 0, 1) := by decide +kernel
theorem dX9_type_22 : decode cX9_type 22 = .ok (.iload_n 1, 1) := by decide +kernel
theorem dX9_type_23 : decode cX9_type 23 = .ok (.invokevirtual 108, 3) := by decide +kernel
theorem dX9_type_26 : decode cX9_type 26 = .ok (.astore_n 3, 1) := by decide +kernel
theorem dX9_type_27 : decode cX9_type 27 = .ok (.aload_n 3, 1) := by decide +kernel
theorem dX9_type_28 : decode cX9_type 28 = .ok (.invokevirtual 112, 3) := by decide +kernel
theorem dX9_type_31 : decode cX9_type 31 = .ok (.ifCond .eq 6, 3) := by decide +kernel
theorem dX9_type_34 : decode cX9_type 34 = .ok (.bipush (-4), 2) := by decide +kernel
theorem dX9_type_36 : decode cX9_type 36 = .ok (.ireturn, 1) := by decide +kernel
theorem dX9_type_37 : decode cX9_type 37 = .ok (.aload_n 3, 1) := by decide +kernel
theorem dX9_type_38 : decode cX9_type 38 = .ok (.iload_n 2, 1) := by decide +kernel
theorem dX9_type_39 : decode cX9_type 39 = .ok (.invokevirtual 116, 3) := by decide +kernel
theorem dX9_type_42 : decode cX9_type 42 = .ok (.aload_n 0, 1) := by decide +kernel
theorem dX9_type_43 : decode cX9_type 43 = .ok (.iconst 1, 1) := by decide +kernel
theorem dX9_type_44 : decode cX9_type 44 = .ok (.putfield 95, 3) := by decide +kernel
theorem dX9_type_47 : decode cX9_type 47 = .ok (.aload_n 3, 1) := by decide +kernel
theorem dX9_type_48 : decode cX9_type 48 = .ok (.getfield 120, 3) := by decide +kernel
theorem dX9_type_51 : decode cX9_type 51 = .ok (.ireturn, 1) := by decide +kernel
theorem dX9_wipe_0 : decode cX9_wipe 0 = .ok (.iload_n 1, 1) := by decide +kernel
theorem dX9_wipe_1 : decode cX9_wipe 1 = .ok (.iconst 2, 1) := by decide +kernel
theorem dX9_wipe_2 : decode cX9_wipe 2 = .ok (.invokestatic 104, 3) := by decide +kernel
theorem dX9_wipe_5 : decode cX9_wipe 5 = .ok (.ifCond .ne 6, 3) := by decide +kernel
theorem dX9_wipe_8 : decode cX9_wipe 8 = .ok (.bipush (-2), 2) := by decide +kernel
theorem dX9_wipe_10 : decode cX9_wipe 10 = .ok (.ireturn, 1) := by decide +kernel
theorem dX9_wipe_11 : decode cX9_wipe 11 = .ok (.aload_n 0, 1) := by decide +kernel
theorem dX9_wipe_12 : decode cX9_wipe 12 = .ok (.iload_n 1, 1) := by decide +kernel
theorem dX9_wipe_13 : decode cX9_wipe 13 = .ok (.invokevirtual 108, 3) := by decide +kernel
theorem dX9_wipe_16 : decode cX9_wipe 16 = .ok (.astore_n 2, 1) := by decide +kernel
theorem dX9_wipe_17 : decode cX9_wipe 17 = .ok (.aload_n 2, 1) := by decide +kernel
theorem dX9_wipe_18 : decode cX9_wipe 18 = .ok (.getfield 120, 3) := by decide +kernel
theorem dX9_wipe_21 : decode cX9_wipe 21 = .ok (.istore_n 3, 1) := by decide +kernel
theorem dX9_wipe_22 : decode cX9_wipe 22 = .ok (.aload_n 2, 1) := by decide +kernel
theorem dX9_wipe_23 : decode cX9_wipe 23 = .ok (.iconst 0, 1) := by decide +kernel
theorem dX9_wipe_24 : decode cX9_wipe 24 = .ok (.invokevirtual 123, 3) := by decide +kernel
theorem dX9_wipe_27 : decode cX9_wipe 27 = .ok (.aload_n 0, 1) := by decide +kernel
theorem dX9_wipe_28 : decode cX9_wipe 28 = .ok (.iconst 1, 1) := by decide +kernel
theorem dX9_wipe_29 : decode cX9_wipe 29 = .ok (.putfield 95, 3) := by decide +kernel
theorem dX9_wipe_32 : decode cX9_wipe 32 = .ok (.iload_n 3, 1) := by decide +kernel
theorem dX9_wipe_33 : decode cX9_wipe 33 = .ok (.ireturn, 1) := by decide +kernel
theorem dX9_undo_0 : decode cX9_undo 0 = .ok (.iload_n 1, 1) := by decide +kernel
theorem dX9_undo_1 : decode cX9_undo 1 = .ok (.iconst 2, 1) := by decide +kernel
theorem dX9_undo_2 : decode cX9_undo 2 = .ok (.invokestatic 104, 3) := by decide +kernel
theorem dX9_undo_5 : decode cX9_undo 5 = .ok (.ifCond .ne 6, 3) := by decide +kernel
theorem dX9_undo_8 : decode cX9_undo 8 = .ok (.bipush (-2), 2) := by decide +kernel
theorem dX9_undo_10 : decode cX9_undo 10 = .ok (.ireturn, 1) := by decide +kernel
theorem dX9_undo_11 : decode cX9_undo 11 = .ok (.aload_n 0, 1) := by decide +kernel
theorem dX9_undo_12 : decode cX9_undo 12 = .ok (.iload_n 1, 1) := by decide +kernel
theorem dX9_undo_13 : decode cX9_undo 13 = .ok (.invokevirtual 108, 3) := by decide +kernel
theorem dX9_undo_16 : decode cX9_undo 16 = .ok (.astore_n 2, 1) := by decide +kernel
theorem dX9_undo_17 : decode cX9_undo 17 = .ok (.aload_n 2, 1) := by decide +kernel
theorem dX9_undo_18 : decode cX9_undo 18 = .ok (.getfield 120, 3) := by decide +kernel
theorem dX9_undo_21 : decode cX9_undo 21 = .ok (.ifCond .ne 6, 3) := by decide +kernel
theorem dX9_undo_24 : decode cX9_undo 24 = .ok (.bipush (-3), 2) := by decide +kernel
theorem dX9_undo_26 : decode cX9_undo 26 = .ok (.ireturn, 1) := by decide +kernel
theorem dX9_undo_27 : decode cX9_undo 27 = .ok (.aload_n 2, 1) := by decide +kernel
theorem dX9_undo_28 : decode cX9_undo 28 = .ok (.aload_n 2, 1) := by decide +kernel
theorem dX9_undo_29 : decode cX9_undo 29 = .ok (.getfield 120, 3) := by decide +kernel
theorem dX9_undo_32 : decode cX9_undo 32 = .ok (.iconst 1, 1) := by decide +kernel
theorem dX9_undo_33 : decode cX9_undo 33 = .ok (.isub, 1) := by decide +kernel
theorem dX9_undo_34 : decode cX9_undo 34 = .ok (.invokevirtual 123, 3) := by decide +kernel
theorem dX9_undo_37 : decode cX9_undo 37 = .ok (.aload_n 0, 1) := by decide +kernel
theorem dX9_undo_38 : decode cX9_undo 38 = .ok (.iconst 1, 1) := by decide +kernel
theorem dX9_undo_39 : decode cX9_undo 39 = .ok (.putfield 95, 3) := by decide +kernel
theorem dX9_undo_42 : decode cX9_undo 42 = .ok (.aload_n 2, 1) := by decide +kernel
theorem dX9_undo_43 : decode cX9_undo 43 = .ok (.getfield 120, 3) := by decide +kernel
theorem dX9_undo_46 : decode cX9_undo 46 = .ok (.ireturn, 1) := by decide +kernel
theorem dX9_fault_0 : decode cX9_fault 0 = .ok (.iload_n 1, 1) := by decide +kernel
theorem dX9_fault_1 : decode cX9_fault 1 = .ok (.iconst 2, 1) := by decide +kernel
theorem dX9_fault_2 : decode cX9_fault 2 = .ok (.invokestatic 104, 3) := by decide +kernel
theorem dX9_fault_5 : decode cX9_fault 5 = .ok (.ifCond .ne 6, 3) := by decide +kernel
theorem dX9_fault_8 : decode cX9_fault 8 = .ok (.bipush (-2), 2) := by decide +kernel
theorem dX9_fault_10 : decode cX9_fault 10 = .ok (.ireturn, 1) := by decide +kernel
theorem dX9_fault_11 : decode cX9_fault 11 = .ok (.aload_n 0, 1) := by decide +kernel
theorem dX9_fault_12 : decode cX9_fault 12 = .ok (.invokevirtual 126, 3) := by decide +kernel
theorem dX9_fault_15 : decode cX9_fault 15 = .ok (.aload_n 0, 1) := by decide +kernel
theorem dX9_fault_16 : decode cX9_fault 16 = .ok (.iload_n 1, 1) := by decide +kernel
theorem dX9_fault_17 : decode cX9_fault 17 = .ok (.invokevirtual 108, 3) := by decide +kernel
theorem dX9_fault_20 : decode cX9_fault 20 = .ok (.getfield 129, 3) := by decide +kernel
theorem dX9_fault_23 : decode cX9_fault 23 = .ok (.ireturn, 1) := by decide +kernel
theorem dX9_law_0 : decode cX9_law 0 = .ok (.aload_n 0, 1) := by decide +kernel
theorem dX9_law_1 : decode cX9_law 1 = .ok (.invokevirtual 126, 3) := by decide +kernel
theorem dX9_law_4 : decode cX9_law 4 = .ok (.iload_n 1, 1) := by decide +kernel
theorem dX9_law_5 : decode cX9_law 5 = .ok (.aload_n 0, 1) := by decide +kernel
theorem dX9_law_6 : decode cX9_law 6 = .ok (.getfield 37, 3) := by decide +kernel
theorem dX9_law_9 : decode cX9_law 9 = .ok (.getfield 132, 3) := by decide +kernel
theorem dX9_law_12 : decode cX9_law 12 = .ok (.invokestatic 104, 3) := by decide +kernel
theorem dX9_law_15 : decode cX9_law 15 = .ok (.ifCond .eq 11, 3) := by decide +kernel
theorem dX9_law_18 : decode cX9_law 18 = .ok (.iload_n 2, 1) := by decide +kernel
theorem dX9_law_19 : decode cX9_law 19 = .ok (.iconst 5, 1) := by decide +kernel
theorem dX9_law_20 : decode cX9_law 20 = .ok (.invokestatic 104, 3) := by decide +kernel
theorem dX9_law_23 : decode cX9_law 23 = .ok (.ifCond .ne 6, 3) := by decide +kernel
theorem dX9_law_26 : decode cX9_law 26 = .ok (.bipush (-2), 2) := by decide +kernel
theorem dX9_law_28 : decode cX9_law 28 = .ok (.ireturn, 1) := by decide +kernel
theorem dX9_law_29 : decode cX9_law 29 = .ok (.aload_n 0, 1) := by decide +kernel
theorem dX9_law_30 : decode cX9_law 30 = .ok (.getfield 37, 3) := by decide +kernel
theorem dX9_law_33 : decode cX9_law 33 = .ok (.iload_n 1, 1) := by decide +kernel
theorem dX9_law_34 : decode cX9_law 34 = .ok (.iload_n 2, 1) := by decide +kernel
theorem dX9_law_35 : decode cX9_law 35 = .ok (.invokevirtual 135, 3) := by decide +kernel
theorem dX9_law_38 : decode cX9_law 38 = .ok (.ireturn, 1) := by decide +kernel
theorem dX9_want_0 : decode cX9_want 0 = .ok (.aload_n 0, 1) := by decide +kernel
theorem dX9_want_1 : decode cX9_want 1 = .ok (.invokevirtual 126, 3) := by decide +kernel
theorem dX9_want_4 : decode cX9_want 4 = .ok (.iload_n 1, 1) := by decide +kernel
theorem dX9_want_5 : decode cX9_want 5 = .ok (.aload_n 0, 1) := by decide +kernel
theorem dX9_want_6 : decode cX9_want 6 = .ok (.getfield 31, 3) := by decide +kernel
theorem dX9_want_9 : decode cX9_want 9 = .ok (.getfield 139, 3) := by decide +kernel
theorem dX9_want_12 : decode cX9_want 12 = .ok (.invokestatic 104, 3) := by decide +kernel
theorem dX9_want_15 : decode cX9_want 15 = .ok (.ifCond .eq 11, 3) := by decide +kernel
theorem dX9_want_18 : decode cX9_want 18 = .ok (.iload_n 2, 1) := by decide +kernel
theorem dX9_want_19 : decode cX9_want 19 = .ok (.iconst 3, 1) := by decide +kernel
theorem dX9_want_20 : decode cX9_want 20 = .ok (.invokestatic 104, 3) := by decide +kernel
theorem dX9_want_23 : decode cX9_want 23 = .ok (.ifCond .ne 6, 3) := by decide +kernel
theorem dX9_want_26 : decode cX9_want 26 = .ok (.bipush (-2), 2) := by decide +kernel
theorem dX9_want_28 : decode cX9_want 28 = .ok (.ireturn, 1) := by decide +kernel
theorem dX9_want_29 : decode cX9_want 29 = .ok (.aload_n 0, 1) := by decide +kernel
theorem dX9_want_30 : decode cX9_want 30 = .ok (.getfield 31, 3) := by decide +kernel
theorem dX9_want_33 : decode cX9_want 33 = .ok (.iload_n 1, 1) := by decide +kernel
theorem dX9_want_34 : decode cX9_want 34 = .ok (.iload_n 2, 1) := by decide +kernel
theorem dX9_want_35 : decode cX9_want 35 = .ok (.invokevirtual 142, 3) := by decide +kernel
theorem dX9_want_38 : decode cX9_want 38 = .ok (.istore_n 3, 1) := by decide +kernel
theorem dX9_want_39 : decode cX9_want 39 = .ok (.iload_n 2, 1) := by decide +kernel
theorem dX9_want_40 : decode cX9_want 40 = .ok (.iconst 2, 1) := by decide +kernel
theorem dX9_want_41 : decode cX9_want 41 = .ok (.if_icmp .ne 9, 3) := by decide +kernel
theorem dX9_want_44 : decode cX9_want 44 = .ok (.iload_n 3, 1) := by decide +kernel
theorem dX9_want_45 : decode cX9_want 45 = .ok (.iconst 1, 1) := by decide +kernel
theorem dX9_want_46 : decode cX9_want 46 = .ok (.iadd, 1) := by decide +kernel
theorem dX9_want_47 : decode cX9_want 47 = .ok (.goto 4, 3) := by decide +kernel
theorem dX9_want_50 : decode cX9_want 50 = .ok (.iload_n 3, 1) := by decide +kernel
theorem dX9_want_51 : decode cX9_want 51 = .ok (.ireturn, 1) := by decide +kernel
theorem dX9_trial_0 : decode cX9_trial 0 = .ok (.aload_n 0, 1) := by decide +kernel
theorem dX9_trial_1 : decode cX9_trial 1 = .ok (.aload_n 0, 1) := by decide +kernel
theorem dX9_trial_2 : decode cX9_trial 2 = .ok (.getfield 44, 3) := by decide +kernel
theorem dX9_trial_5 : decode cX9_trial 5 = .ok (.iload_n 1, 1) := by decide +kernel
theorem dX9_trial_6 : decode cX9_trial 6 = .ok (.iload_n 2, 1) := by decide +kernel
theorem dX9_trial_7 : decode cX9_trial 7 = .ok (.invokevirtual 145, 3) := by decide +kernel
theorem dX9_trial_10 : decode cX9_trial 10 = .ok (.ireturn, 1) := by decide +kernel
theorem dX9_breach_0 : decode cX9_breach 0 = .ok (.aload_n 0, 1) := by decide +kernel
theorem dX9_breach_1 : decode cX9_breach 1 = .ok (.aload_n 0, 1) := by decide +kernel
theorem dX9_breach_2 : decode cX9_breach 2 = .ok (.getfield 48, 3) := by decide +kernel
theorem dX9_breach_5 : decode cX9_breach 5 = .ok (.iload_n 1, 1) := by decide +kernel
theorem dX9_breach_6 : decode cX9_breach 6 = .ok (.iload_n 2, 1) := by decide +kernel
theorem dX9_breach_7 : decode cX9_breach 7 = .ok (.invokevirtual 145, 3) := by decide +kernel
theorem dX9_breach_10 : decode cX9_breach 10 = .ok (.ireturn, 1) := by decide +kernel
theorem dX9_back_0 : decode cX9_back 0 = .ok (.iload_n 1, 1) := by decide +kernel
theorem dX9_back_1 : decode cX9_back 1 = .ok (.iconst 2, 1) := by decide +kernel
theorem dX9_back_2 : decode cX9_back 2 = .ok (.invokestatic 104, 3) := by decide +kernel
theorem dX9_back_5 : decode cX9_back 5 = .ok (.ifCond .ne 6, 3) := by decide +kernel
theorem dX9_back_8 : decode cX9_back 8 = .ok (.bipush (-2), 2) := by decide +kernel
theorem dX9_back_10 : decode cX9_back 10 = .ok (.ireturn, 1) := by decide +kernel
theorem dX9_back_11 : decode cX9_back 11 = .ok (.iload_n 1, 1) := by decide +kernel
theorem dX9_back_12 : decode cX9_back 12 = .ok (.ifCond .ne 10, 3) := by decide +kernel
theorem dX9_back_15 : decode cX9_back 15 = .ok (.aload_n 0, 1) := by decide +kernel
theorem dX9_back_16 : decode cX9_back 16 = .ok (.getfield 44, 3) := by decide +kernel
theorem dX9_back_19 : decode cX9_back 19 = .ok (.goto 7, 3) := by decide +kernel
theorem dX9_back_22 : decode cX9_back 22 = .ok (.aload_n 0, 1) := by decide +kernel
theorem dX9_back_23 : decode cX9_back 23 = .ok (.getfield 48, 3) := by decide +kernel
theorem dX9_back_26 : decode cX9_back 26 = .ok (.astore_n 2, 1) := by decide +kernel
theorem dX9_back_27 : decode cX9_back 27 = .ok (.aload_n 2, 1) := by decide +kernel
theorem dX9_back_28 : decode cX9_back 28 = .ok (.getfield 149, 3) := by decide +kernel
theorem dX9_back_31 : decode cX9_back 31 = .ok (.ifCond .ne 6, 3) := by decide +kernel
theorem dX9_back_34 : decode cX9_back 34 = .ok (.bipush (-3), 2) := by decide +kernel
theorem dX9_back_36 : decode cX9_back 36 = .ok (.ireturn, 1) := by decide +kernel
theorem dX9_back_37 : decode cX9_back 37 = .ok (.aload_n 2, 1) := by decide +kernel
theorem dX9_back_38 : decode cX9_back 38 = .ok (.dup, 1) := by decide +kernel
theorem dX9_back_39 : decode cX9_back 39 = .ok (.getfield 149, 3) := by decide +kernel
theorem dX9_back_42 : decode cX9_back 42 = .ok (.iconst 1, 1) := by decide +kernel
theorem dX9_back_43 : decode cX9_back 43 = .ok (.isub, 1) := by decide +kernel
theorem dX9_back_44 : decode cX9_back 44 = .ok (.putfield 149, 3) := by decide +kernel
theorem dX9_back_47 : decode cX9_back 47 = .ok (.aload_n 0, 1) := by decide +kernel
theorem dX9_back_48 : decode cX9_back 48 = .ok (.getfield 54, 3) := by decide +kernel
theorem dX9_back_51 : decode cX9_back 51 = .ok (.aload_n 0, 1) := by decide +kernel
theorem dX9_back_52 : decode cX9_back 52 = .ok (.getfield 44, 3) := by decide +kernel
theorem dX9_back_55 : decode cX9_back 55 = .ok (.aload_n 0, 1) := by decide +kernel
theorem dX9_back_56 : decode cX9_back 56 = .ok (.getfield 48, 3) := by decide +kernel
theorem dX9_back_59 : decode cX9_back 59 = .ok (.invokevirtual 150, 3) := by decide +kernel
theorem dX9_back_62 : decode cX9_back 62 = .ok (.aload_n 2, 1) := by decide +kernel
theorem dX9_back_63 : decode cX9_back 63 = .ok (.getfield 149, 3) := by decide +kernel
theorem dX9_back_66 : decode cX9_back 66 = .ok (.ireturn, 1) := by decide +kernel
theorem dX9_binds_0 : decode cX9_binds 0 = .ok (.iload_n 1, 1) := by decide +kernel
theorem dX9_binds_1 : decode cX9_binds 1 = .ok (.bipush 30, 2) := by decide +kernel
theorem dX9_binds_3 : decode cX9_binds 3 = .ok (.invokestatic 104, 3) := by decide +kernel
theorem dX9_binds_6 : decode cX9_binds 6 = .ok (.ifCond .eq 11, 3) := by decide +kernel
theorem dX9_binds_9 : decode cX9_binds 9 = .ok (.iload_n 2, 1) := by decide +kernel
theorem dX9_binds_10 : decode cX9_binds 10 = .ok (.iconst 3, 1) := by decide +kernel
theorem dX9_binds_11 : decode cX9_binds 11 = .ok (.invokestatic 104, 3) := by decide +kernel
theorem dX9_binds_14 : decode cX9_binds 14 = .ok (.ifCond .ne 6, 3) := by decide +kernel
theorem dX9_binds_17 : decode cX9_binds 17 = .ok (.bipush (-2), 2) := by decide +kernel
theorem dX9_binds_19 : decode cX9_binds 19 = .ok (.ireturn, 1) := by decide +kernel
theorem dX9_binds_20 : decode cX9_binds 20 = .ok (.aload_n 0, 1) := by decide +kernel
theorem dX9_binds_21 : decode cX9_binds 21 = .ok (.invokevirtual 126, 3) := by decide +kernel
theorem dX9_binds_24 : decode cX9_binds 24 = .ok (.iload_n 2, 1) := by decide +kernel
theorem dX9_binds_25 : decode cX9_binds 25 = .ok (.lookupswitch 53 #[(0, 27), (1, 40)], 27) := by decide +kernel
theorem dX9_binds_52 : decode cX9_binds 52 = .ok (.aload_n 0, 1) := by decide +kernel
theorem dX9_binds_53 : decode cX9_binds 53 = .ok (.getfield 54, 3) := by decide +kernel
theorem dX9_binds_56 : decode cX9_binds 56 = .ok (.aload_n 0, 1) := by decide +kernel
theorem dX9_binds_57 : decode cX9_binds 57 = .ok (.getfield 37, 3) := by decide +kernel
theorem dX9_binds_60 : decode cX9_binds 60 = .ok (.iload_n 1, 1) := by decide +kernel
theorem dX9_binds_61 : decode cX9_binds 61 = .ok (.invokevirtual 154, 3) := by decide +kernel
theorem dX9_binds_64 : decode cX9_binds 64 = .ok (.ireturn, 1) := by decide +kernel
theorem dX9_binds_65 : decode cX9_binds 65 = .ok (.aload_n 0, 1) := by decide +kernel
theorem dX9_binds_66 : decode cX9_binds 66 = .ok (.getfield 54, 3) := by decide +kernel
theorem dX9_binds_69 : decode cX9_binds 69 = .ok (.aload_n 0, 1) := by decide +kernel
theorem dX9_binds_70 : decode cX9_binds 70 = .ok (.getfield 37, 3) := by decide +kernel
theorem dX9_binds_73 : decode cX9_binds 73 = .ok (.iload_n 1, 1) := by decide +kernel
theorem dX9_binds_74 : decode cX9_binds 74 = .ok (.invokevirtual 158, 3) := by decide +kernel
theorem dX9_binds_77 : decode cX9_binds 77 = .ok (.ireturn, 1) := by decide +kernel
theorem dX9_binds_78 : decode cX9_binds 78 = .ok (.aload_n 0, 1) := by decide +kernel
theorem dX9_binds_79 : decode cX9_binds 79 = .ok (.getfield 54, 3) := by decide +kernel
theorem dX9_binds_82 : decode cX9_binds 82 = .ok (.aload_n 0, 1) := by decide +kernel
theorem dX9_binds_83 : decode cX9_binds 83 = .ok (.getfield 37, 3) := by decide +kernel
theorem dX9_binds_86 : decode cX9_binds 86 = .ok (.iload_n 1, 1) := by decide +kernel
theorem dX9_binds_87 : decode cX9_binds 87 = .ok (.invokevirtual 161, 3) := by decide +kernel
theorem dX9_binds_90 : decode cX9_binds 90 = .ok (.ireturn, 1) := by decide +kernel
theorem dX9_does_0 : decode cX9_does 0 = .ok (.iload_n 1, 1) := by decide +kernel
theorem dX9_does_1 : decode cX9_does 1 = .ok (.bipush 30, 2) := by decide +kernel
theorem dX9_does_3 : decode cX9_does 3 = .ok (.invokestatic 104, 3) := by decide +kernel
theorem dX9_does_6 : decode cX9_does 6 = .ok (.ifCond .eq 12, 3) := by decide +kernel
theorem dX9_does_9 : decode cX9_does 9 = .ok (.iload_n 2, 1) := by decide +kernel
theorem dX9_does_10 : decode cX9_does 10 = .ok (.bipush 24, 2) := by decide +kernel
theorem dX9_does_12 : decode cX9_does 12 = .ok (.invokestatic 104, 3) := by decide +kernel
theorem dX9_does_15 : decode cX9_does 15 = .ok (.ifCond .ne 6, 3) := by decide +kernel
theorem dX9_does_18 : decode cX9_does 18 = .ok (.bipush (-2), 2) := by decide +kernel
theorem dX9_does_20 : decode cX9_does 20 = .ok (.ireturn, 1) := by decide +kernel
theorem dX9_does_21 : decode cX9_does 21 = .ok (.aload_n 0, 1) := by decide +kernel
theorem dX9_does_22 : decode cX9_does 22 = .ok (.getfield 37, 3) := by decide +kernel
theorem dX9_does_25 : decode cX9_does 25 = .ok (.aload_n 0, 1) := by decide +kernel
theorem dX9_does_26 : decode cX9_does 26 = .ok (.iload_n 1, 1) := by decide +kernel
theorem dX9_does_27 : decode cX9_does 27 = .ok (.invokevirtual 164, 3) := by decide +kernel
theorem dX9_does_30 : decode cX9_does 30 = .ok (.iload_n 2, 1) := by decide +kernel
theorem dX9_does_31 : decode cX9_does 31 = .ok (.invokevirtual 168, 3) := by decide +kernel
theorem dX9_does_34 : decode cX9_does 34 = .ok (.ireturn, 1) := by decide +kernel
theorem dX9_joy_0 : decode cX9_joy 0 = .ok (.iload_n 1, 1) := by decide +kernel
theorem dX9_joy_1 : decode cX9_joy 1 = .ok (.bipush 30, 2) := by decide +kernel
theorem dX9_joy_3 : decode cX9_joy 3 = .ok (.invokestatic 104, 3) := by decide +kernel
theorem dX9_joy_6 : decode cX9_joy 6 = .ok (.ifCond .eq 11, 3) := by decide +kernel
theorem dX9_joy_9 : decode cX9_joy 9 = .ok (.iload_n 2, 1) := by decide +kernel
theorem dX9_joy_10 : decode cX9_joy 10 = .ok (.iconst 2, 1) := by decide +kernel
theorem dX9_joy_11 : decode cX9_joy 11 = .ok (.invokestatic 104, 3) := by decide +kernel
theorem dX9_joy_14 : decode cX9_joy 14 = .ok (.ifCond .ne 6, 3) := by decide +kernel
theorem dX9_joy_17 : decode cX9_joy 17 = .ok (.bipush (-2), 2) := by decide +kernel
theorem dX9_joy_19 : decode cX9_joy 19 = .ok (.ireturn, 1) := by decide +kernel
theorem dX9_joy_20 : decode cX9_joy 20 = .ok (.aload_n 0, 1) := by decide +kernel
theorem dX9_joy_21 : decode cX9_joy 21 = .ok (.iload_n 1, 1) := by decide +kernel
theorem dX9_joy_22 : decode cX9_joy 22 = .ok (.invokevirtual 164, 3) := by decide +kernel
theorem dX9_joy_25 : decode cX9_joy 25 = .ok (.istore_n 3, 1) := by decide +kernel
theorem dX9_joy_26 : decode cX9_joy 26 = .ok (.iload_n 2, 1) := by decide +kernel
theorem dX9_joy_27 : decode cX9_joy 27 = .ok (.ifCond .ne 14, 3) := by decide +kernel
theorem dX9_joy_30 : decode cX9_joy 30 = .ok (.aload_n 0, 1) := by decide +kernel
theorem dX9_joy_31 : decode cX9_joy 31 = .ok (.getfield 37, 3) := by decide +kernel
theorem dX9_joy_34 : decode cX9_joy 34 = .ok (.iload_n 3, 1) := by decide +kernel
theorem dX9_joy_35 : decode cX9_joy 35 = .ok (.invokevirtual 171, 3) := by decide +kernel
theorem dX9_joy_38 : decode cX9_joy 38 = .ok (.goto 11, 3) := by decide +kernel
theorem dX9_joy_41 : decode cX9_joy 41 = .ok (.aload_n 0, 1) := by decide +kernel
theorem dX9_joy_42 : decode cX9_joy 42 = .ok (.getfield 37, 3) := by decide +kernel
theorem dX9_joy_45 : decode cX9_joy 45 = .ok (.iload_n 3, 1) := by decide +kernel
theorem dX9_joy_46 : decode cX9_joy 46 = .ok (.invokevirtual 174, 3) := by decide +kernel
theorem dX9_joy_49 : decode cX9_joy 49 = .ok (.ireturn, 1) := by decide +kernel
theorem dX9_quarrels_0 : decode cX9_quarrels 0 = .ok (.iload_n 1, 1) := by decide +kernel
theorem dX9_quarrels_1 : decode cX9_quarrels 1 = .ok (.bipush 30, 2) := by decide +kernel
theorem dX9_quarrels_3 : decode cX9_quarrels 3 = .ok (.invokestatic 104, 3) := by decide +kernel
theorem dX9_quarrels_6 : decode cX9_quarrels 6 = .ok (.ifCond .eq 11, 3) := by decide +kernel
theorem dX9_quarrels_9 : decode cX9_quarrels 9 = .ok (.iload_n 2, 1) := by decide +kernel
theorem dX9_quarrels_10 : decode cX9_quarrels 10 = .ok (.iconst 2, 1) := by decide +kernel
theorem dX9_quarrels_11 : decode cX9_quarrels 11 = .ok (.invokestatic 104, 3) := by decide +kernel
theorem dX9_quarrels_14 : decode cX9_quarrels 14 = .ok (.ifCond .ne 6, 3) := by decide +kernel
theorem dX9_quarrels_17 : decode cX9_quarrels 17 = .ok (.bipush (-2), 2) := by decide +kernel
theorem dX9_quarrels_19 : decode cX9_quarrels 19 = .ok (.ireturn, 1) := by decide +kernel
theorem dX9_quarrels_20 : decode cX9_quarrels 20 = .ok (.aload_n 0, 1) := by decide +kernel
theorem dX9_quarrels_21 : decode cX9_quarrels 21 = .ok (.iload_n 1, 1) := by decide +kernel
theorem dX9_quarrels_22 : decode cX9_quarrels 22 = .ok (.invokevirtual 164, 3) := by decide +kernel
theorem dX9_quarrels_25 : decode cX9_quarrels 25 = .ok (.istore_n 3, 1) := by decide +kernel
theorem dX9_quarrels_26 : decode cX9_quarrels 26 = .ok (.iload_n 2, 1) := by decide +kernel
theorem dX9_quarrels_27 : decode cX9_quarrels 27 = .ok (.ifCond .ne 14, 3) := by decide +kernel
theorem dX9_quarrels_30 : decode cX9_quarrels 30 = .ok (.aload_n 0, 1) := by decide +kernel
theorem dX9_quarrels_31 : decode cX9_quarrels 31 = .ok (.getfield 37, 3) := by decide +kernel
theorem dX9_quarrels_34 : decode cX9_quarrels 34 = .ok (.iload_n 3, 1) := by decide +kernel
theorem dX9_quarrels_35 : decode cX9_quarrels 35 = .ok (.invokevirtual 177, 3) := by decide +kernel
theorem dX9_quarrels_38 : decode cX9_quarrels 38 = .ok (.goto 11, 3) := by decide +kernel
theorem dX9_quarrels_41 : decode cX9_quarrels 41 = .ok (.aload_n 0, 1) := by decide +kernel
theorem dX9_quarrels_42 : decode cX9_quarrels 42 = .ok (.getfield 37, 3) := by decide +kernel
theorem dX9_quarrels_45 : decode cX9_quarrels 45 = .ok (.iload_n 3, 1) := by decide +kernel
theorem dX9_quarrels_46 : decode cX9_quarrels 46 = .ok (.invokevirtual 180, 3) := by decide +kernel
theorem dX9_quarrels_49 : decode cX9_quarrels 49 = .ok (.ireturn, 1) := by decide +kernel
theorem dX9_exempt_0 : decode cX9_exempt 0 = .ok (.iload_n 1, 1) := by decide +kernel
theorem dX9_exempt_1 : decode cX9_exempt 1 = .ok (.bipush 30, 2) := by decide +kernel
theorem dX9_exempt_3 : decode cX9_exempt 3 = .ok (.invokestatic 104, 3) := by decide +kernel
theorem dX9_exempt_6 : decode cX9_exempt 6 = .ok (.ifCond .eq 28, 3) := by decide +kernel
theorem dX9_exempt_9 : decode cX9_exempt 9 = .ok (.iload_n 2, 1) := by decide +kernel
theorem dX9_exempt_10 : decode cX9_exempt 10 = .ok (.bipush 24, 2) := by decide +kernel
theorem dX9_exempt_12 : decode cX9_exempt 12 = .ok (.invokestatic 104, 3) := by decide +kernel
theorem dX9_exempt_15 : decode cX9_exempt 15 = .ok (.ifCond .eq 19, 3) := by decide +kernel
theorem dX9_exempt_18 : decode cX9_exempt 18 = .ok (.iload_n 3, 1) := by decide +kernel
theorem dX9_exempt_19 : decode cX9_exempt 19 = .ok (.invokestatic 183, 3) := by decide +kernel
theorem dX9_exempt_22 : decode cX9_exempt 22 = .ok (.ifCond .eq 12, 3) := by decide +kernel
theorem dX9_exempt_25 : decode cX9_exempt 25 = .ok (.iload 4, 2) := by decide +kernel
theorem dX9_exempt_27 : decode cX9_exempt 27 = .ok (.iconst 2, 1) := by decide +kernel
theorem dX9_exempt_28 : decode cX9_exempt 28 = .ok (.invokestatic 104, 3) := by decide +kernel
theorem dX9_exempt_31 : decode cX9_exempt 31 = .ok (.ifCond .ne 6, 3) := by decide +kernel
theorem dX9_exempt_34 : decode cX9_exempt 34 = .ok (.bipush (-2), 2) := by decide +kernel
theorem dX9_exempt_36 : decode cX9_exempt 36 = .ok (.ireturn, 1) := by decide +kernel
theorem dX9_exempt_37 : decode cX9_exempt 37 = .ok (.aload_n 0, 1) := by decide +kernel
theorem dX9_exempt_38 : decode cX9_exempt 38 = .ok (.getfield 37, 3) := by decide +kernel
theorem dX9_exempt_41 : decode cX9_exempt 41 = .ok (.aload_n 0, 1) := by decide +kernel
theorem dX9_exempt_42 : decode cX9_exempt 42 = .ok (.iload_n 1, 1) := by decide +kernel
theorem dX9_exempt_43 : decode cX9_exempt 43 = .ok (.invokevirtual 164, 3) := by decide +kernel
theorem dX9_exempt_46 : decode cX9_exempt 46 = .ok (.iload_n 2, 1) := by decide +kernel
theorem dX9_exempt_47 : decode cX9_exempt 47 = .ok (.iload_n 3, 1) := by decide +kernel
theorem dX9_exempt_48 : decode cX9_exempt 48 = .ok (.invokevirtual 187, 3) := by decide +kernel
theorem dX9_exempt_51 : decode cX9_exempt 51 = .ok (.istore 5, 2) := by decide +kernel
theorem dX9_exempt_53 : decode cX9_exempt 53 = .ok (.iload 5, 2) := by decide +kernel
theorem dX9_exempt_55 : decode cX9_exempt 55 = .ok (.iconst (-1), 1) := by decide +kernel
theorem dX9_exempt_56 : decode cX9_exempt 56 = .ok (.if_icmp .eq 9, 3) := by decide +kernel
theorem dX9_exempt_59 : decode cX9_exempt 59 = .ok (.iload 4, 2) := by decide +kernel
theorem dX9_exempt_61 : decode cX9_exempt 61 = .ok (.iconst 1, 1) := by decide +kernel
theorem dX9_exempt_62 : decode cX9_exempt 62 = .ok (.if_icmp .ne 8, 3) := by decide +kernel
theorem dX9_exempt_65 : decode cX9_exempt 65 = .ok (.iload 5, 2) := by decide +kernel
theorem dX9_exempt_67 : decode cX9_exempt 67 = .ok (.goto 8, 3) := by decide +kernel
theorem dX9_exempt_70 : decode cX9_exempt 70 = .ok (.iload 5, 2) := by decide +kernel
theorem dX9_exempt_72 : decode cX9_exempt 72 = .ok (.invokestatic 191, 3) := by decide +kernel
theorem dX9_exempt_75 : decode cX9_exempt 75 = .ok (.ireturn, 1) := by decide +kernel
theorem dX9_keep_0 : decode cX9_keep 0 = .ok (.iload_n 1, 1) := by decide +kernel
theorem dX9_keep_1 : decode cX9_keep 1 = .ok (.bipush 30, 2) := by decide +kernel
theorem dX9_keep_3 : decode cX9_keep 3 = .ok (.invokestatic 104, 3) := by decide +kernel
theorem dX9_keep_6 : decode cX9_keep 6 = .ok (.ifCond .eq 11, 3) := by decide +kernel
theorem dX9_keep_9 : decode cX9_keep 9 = .ok (.iload_n 2, 1) := by decide +kernel
theorem dX9_keep_10 : decode cX9_keep 10 = .ok (.iconst 2, 1) := by decide +kernel
theorem dX9_keep_11 : decode cX9_keep 11 = .ok (.invokestatic 104, 3) := by decide +kernel
theorem dX9_keep_14 : decode cX9_keep 14 = .ok (.ifCond .ne 6, 3) := by decide +kernel
theorem dX9_keep_17 : decode cX9_keep 17 = .ok (.bipush (-2), 2) := by decide +kernel
theorem dX9_keep_19 : decode cX9_keep 19 = .ok (.ireturn, 1) := by decide +kernel
theorem dX9_keep_20 : decode cX9_keep 20 = .ok (.aload_n 0, 1) := by decide +kernel
theorem dX9_keep_21 : decode cX9_keep 21 = .ok (.getfield 64, 3) := by decide +kernel
theorem dX9_keep_24 : decode cX9_keep 24 = .ok (.aload_n 0, 1) := by decide +kernel
theorem dX9_keep_25 : decode cX9_keep 25 = .ok (.getfield 37, 3) := by decide +kernel
theorem dX9_keep_28 : decode cX9_keep 28 = .ok (.aload_n 0, 1) := by decide +kernel
theorem dX9_keep_29 : decode cX9_keep 29 = .ok (.iload_n 1, 1) := by decide +kernel
theorem dX9_keep_30 : decode cX9_keep 30 = .ok (.invokevirtual 164, 3) := by decide +kernel
theorem dX9_keep_33 : decode cX9_keep 33 = .ok (.invokevirtual 196, 3) := by decide +kernel
theorem dX9_keep_36 : decode cX9_keep 36 = .ok (.iload_n 2, 1) := by decide +kernel
theorem dX9_keep_37 : decode cX9_keep 37 = .ok (.ifCond .ne 13, 3) := by decide +kernel
theorem dX9_keep_40 : decode cX9_keep 40 = .ok (.aload_n 0, 1) := by decide +kernel
theorem dX9_keep_41 : decode cX9_keep 41 = .ok (.getfield 64, 3) := by decide +kernel
theorem dX9_keep_44 : decode cX9_keep 44 = .ok (.getfield 200, 3) := by decide +kernel
theorem dX9_keep_47 : decode cX9_keep 47 = .ok (.goto 10, 3) := by decide +kernel
theorem dX9_keep_50 : decode cX9_keep 50 = .ok (.aload_n 0, 1) := by decide +kernel
theorem dX9_keep_51 : decode cX9_keep 51 = .ok (.getfield 64, 3) := by decide +kernel
theorem dX9_keep_54 : decode cX9_keep 54 = .ok (.getfield 203, 3) := by decide +kernel
theorem dX9_keep_57 : decode cX9_keep 57 = .ok (.ireturn, 1) := by decide +kernel
theorem dX9_order_0 : decode cX9_order 0 = .ok (.aload_n 0, 1) := by decide +kernel
theorem dX9_order_1 : decode cX9_order 1 = .ok (.invokevirtual 126, 3) := by decide +kernel
theorem dX9_order_4 : decode cX9_order 4 = .ok (.iload_n 1, 1) := by decide +kernel
theorem dX9_order_5 : decode cX9_order 5 = .ok (.invokestatic 191, 3) := by decide +kernel
theorem dX9_order_8 : decode cX9_order 8 = .ok (.istore 4, 2) := by decide +kernel
theorem dX9_order_10 : decode cX9_order 10 = .ok (.iload_n 1, 1) := by decide +kernel
theorem dX9_order_11 : decode cX9_order 11 = .ok (.aload_n 0, 1) := by decide +kernel
theorem dX9_order_12 : decode cX9_order 12 = .ok (.getfield 37, 3) := by decide +kernel
theorem dX9_order_15 : decode cX9_order 15 = .ok (.invokevirtual 206, 3) := by decide +kernel
theorem dX9_order_18 : decode cX9_order 18 = .ok (.iconst (-1), 1) := by decide +kernel
theorem dX9_order_19 : decode cX9_order 19 = .ok (.ixor, 1) := by decide +kernel
theorem dX9_order_20 : decode cX9_order 20 = .ok (.iand, 1) := by decide +kernel
theorem dX9_order_21 : decode cX9_order 21 = .ok (.ifCond .ne 15, 3) := by decide +kernel
theorem dX9_order_24 : decode cX9_order 24 = .ok (.iload 4, 2) := by decide +kernel
theorem dX9_order_26 : decode cX9_order 26 = .ok (.iconst 1, 1) := by decide +kernel
theorem dX9_order_27 : decode cX9_order 27 = .ok (.if_icmp .lt 9, 3) := by decide +kernel
theorem dX9_order_30 : decode cX9_order 30 = .ok (.iload 4, 2) := by decide +kernel
theorem dX9_order_32 : decode cX9_order 32 = .ok (.iconst 4, 1) := by decide +kernel
theorem dX9_order_33 : decode cX9_order 33 = .ok (.if_icmp .le 6, 3) := by decide +kernel
theorem dX9_order_36 : decode cX9_order 36 = .ok (.bipush (-2), 2) := by decide +kernel
theorem dX9_order_38 : decode cX9_order 38 = .ok (.ireturn, 1) := by decide +kernel
theorem dX9_order_39 : decode cX9_order 39 = .ok (.iload_n 2, 1) := by decide +kernel
theorem dX9_order_40 : decode cX9_order 40 = .ok (.bipush 30, 2) := by decide +kernel
theorem dX9_order_42 : decode cX9_order 42 = .ok (.invokestatic 104, 3) := by decide +kernel
theorem dX9_order_45 : decode cX9_order 45 = .ok (.ifCond .eq 22, 3) := by decide +kernel
theorem dX9_order_48 : decode cX9_order 48 = .ok (.iload_n 2, 1) := by decide +kernel
theorem dX9_order_49 : decode cX9_order 49 = .ok (.iload 4, 2) := by decide +kernel
theorem dX9_order_51 : decode cX9_order 51 = .ok (.iadd, 1) := by decide +kernel
theorem dX9_order_52 : decode cX9_order 52 = .ok (.bipush 30, 2) := by decide +kernel
theorem dX9_order_54 : decode cX9_order 54 = .ok (.if_icmp .gt 13, 3) := by decide +kernel
theorem dX9_order_57 : decode cX9_order 57 = .ok (.iload_n 3, 1) := by decide +kernel
theorem dX9_order_58 : decode cX9_order 58 = .ok (.iconst (-1), 1) := by decide +kernel
theorem dX9_order_59 : decode cX9_order 59 = .ok (.if_icmp .lt 8, 3) := by decide +kernel
theorem dX9_order_62 : decode cX9_order 62 = .ok (.iload_n 3, 1) := by decide +kernel
theorem dX9_order_63 : decode cX9_order 63 = .ok (.iconst 4, 1) := by decide +kernel
theorem dX9_order_64 : decode cX9_order 64 = .ok (.if_icmp .lt 6, 3) := by decide +kernel
theorem dX9_order_67 : decode cX9_order 67 = .ok (.bipush (-2), 2) := by decide +kernel
theorem dX9_order_69 : decode cX9_order 69 = .ok (.ireturn, 1) := by decide +kernel
theorem dX9_order_70 : decode cX9_order 70 = .ok (.iload_n 3, 1) := by decide +kernel
theorem dX9_order_71 : decode cX9_order 71 = .ok (.iload 4, 2) := by decide +kernel
theorem dX9_order_73 : decode cX9_order 73 = .ok (.if_icmp .lt 5, 3) := by decide +kernel
theorem dX9_order_76 : decode cX9_order 76 = .ok (.iconst (-1), 1) := by decide +kernel
theorem dX9_order_77 : decode cX9_order 77 = .ok (.ireturn, 1) := by decide +kernel
theorem dX9_order_78 : decode cX9_order 78 = .ok (.aload_n 0, 1) := by decide +kernel
theorem dX9_order_79 : decode cX9_order 79 = .ok (.getfield 58, 3) := by decide +kernel
theorem dX9_order_82 : decode cX9_order 82 = .ok (.aload_n 0, 1) := by decide +kernel
theorem dX9_order_83 : decode cX9_order 83 = .ok (.getfield 44, 3) := by decide +kernel
theorem dX9_order_86 : decode cX9_order 86 = .ok (.aload_n 0, 1) := by decide +kernel
theorem dX9_order_87 : decode cX9_order 87 = .ok (.getfield 48, 3) := by decide +kernel
theorem dX9_order_90 : decode cX9_order 90 = .ok (.invokevirtual 150, 3) := by decide +kernel
theorem dX9_order_93 : decode cX9_order 93 = .ok (.aload_n 0, 1) := by decide +kernel
theorem dX9_order_94 : decode cX9_order 94 = .ok (.getfield 71, 3) := by decide +kernel
theorem dX9_order_97 : decode cX9_order 97 = .ok (.aload_n 0, 1) := by decide +kernel
theorem dX9_order_98 : decode cX9_order 98 = .ok (.getfield 37, 3) := by decide +kernel
theorem dX9_order_101 : decode cX9_order 101 = .ok (.aload_n 0, 1) := by decide +kernel
theorem dX9_order_102 : decode cX9_order 102 = .ok (.getfield 58, 3) := by decide +kernel
theorem dX9_order_105 : decode cX9_order 105 = .ok (.aload_n 0, 1) := by decide +kernel
theorem dX9_order_106 : decode cX9_order 106 = .ok (.getfield 48, 3) := by decide +kernel
theorem dX9_order_109 : decode cX9_order 109 = .ok (.iload_n 1, 1) := by decide +kernel
theorem dX9_order_110 : decode cX9_order 110 = .ok (.iload_n 2, 1) := by decide +kernel
theorem dX9_order_111 : decode cX9_order 111 = .ok (.invokevirtual 210, 3) := by decide +kernel
theorem dX9_order_114 : decode cX9_order 114 = .ok (.iload_n 3, 1) := by decide +kernel
theorem dX9_order_115 : decode cX9_order 115 = .ok (.iconst (-1), 1) := by decide +kernel
theorem dX9_order_116 : decode cX9_order 116 = .ok (.if_icmp .ne 13, 3) := by decide +kernel
theorem dX9_order_119 : decode cX9_order 119 = .ok (.aload_n 0, 1) := by decide +kernel
theorem dX9_order_120 : decode cX9_order 120 = .ok (.getfield 71, 3) := by decide +kernel
theorem dX9_order_123 : decode cX9_order 123 = .ok (.getfield 213, 3) := by decide +kernel
theorem dX9_order_126 : decode cX9_order 126 = .ok (.goto 12, 3) := by decide +kernel
theorem dX9_order_129 : decode cX9_order 129 = .ok (.aload_n 0, 1) := by decide +kernel
theorem dX9_order_130 : decode cX9_order 130 = .ok (.getfield 71, 3) := by decide +kernel
theorem dX9_order_133 : decode cX9_order 133 = .ok (.getfield 214, 3) := by decide +kernel
theorem dX9_order_136 : decode cX9_order 136 = .ok (.iload_n 3, 1) := by decide +kernel
theorem dX9_order_137 : decode cX9_order 137 = .ok (.iaload, 1) := by decide +kernel
theorem dX9_order_138 : decode cX9_order 138 = .ok (.ireturn, 1) := by decide +kernel
theorem dX9_seen_0 : decode cX9_seen 0 = .ok (.iload_n 1, 1) := by decide +kernel
theorem dX9_seen_1 : decode cX9_seen 1 = .ok (.bipush 24, 2) := by decide +kernel
theorem dX9_seen_3 : decode cX9_seen 3 = .ok (.invokestatic 104, 3) := by decide +kernel
theorem dX9_seen_6 : decode cX9_seen 6 = .ok (.ifCond .eq 10, 3) := by decide +kernel
theorem dX9_seen_9 : decode cX9_seen 9 = .ok (.iload_n 2, 1) := by decide +kernel
theorem dX9_seen_10 : decode cX9_seen 10 = .ok (.invokestatic 183, 3) := by decide +kernel
theorem dX9_seen_13 : decode cX9_seen 13 = .ok (.ifCond .ne 6, 3) := by decide +kernel
theorem dX9_seen_16 : decode cX9_seen 16 = .ok (.bipush (-2), 2) := by decide +kernel
theorem dX9_seen_18 : decode cX9_seen 18 = .ok (.ireturn, 1) := by decide +kernel
theorem dX9_seen_19 : decode cX9_seen 19 = .ok (.aload_n 0, 1) := by decide +kernel
theorem dX9_seen_20 : decode cX9_seen 20 = .ok (.getfield 78, 3) := by decide +kernel
theorem dX9_seen_23 : decode cX9_seen 23 = .ok (.invokevirtual 217, 3) := by decide +kernel
theorem dX9_seen_26 : decode cX9_seen 26 = .ok (.ifCond .eq 6, 3) := by decide +kernel
theorem dX9_seen_29 : decode cX9_seen 29 = .ok (.bipush (-4), 2) := by decide +kernel
theorem dX9_seen_31 : decode cX9_seen 31 = .ok (.ireturn, 1) := by decide +kernel
theorem dX9_seen_32 : decode cX9_seen 32 = .ok (.aload_n 0, 1) := by decide +kernel
theorem dX9_seen_33 : decode cX9_seen 33 = .ok (.getfield 78, 3) := by decide +kernel
theorem dX9_seen_36 : decode cX9_seen 36 = .ok (.iload_n 1, 1) := by decide +kernel
theorem dX9_seen_37 : decode cX9_seen 37 = .ok (.iload_n 2, 1) := by decide +kernel
theorem dX9_seen_38 : decode cX9_seen 38 = .ok (.invokevirtual 218, 3) := by decide +kernel
theorem dX9_seen_41 : decode cX9_seen 41 = .ok (.aload_n 0, 1) := by decide +kernel
theorem dX9_seen_42 : decode cX9_seen 42 = .ok (.getfield 78, 3) := by decide +kernel
theorem dX9_seen_45 : decode cX9_seen 45 = .ok (.getfield 221, 3) := by decide +kernel
theorem dX9_seen_48 : decode cX9_seen 48 = .ok (.ireturn, 1) := by decide +kernel
theorem dX9_forget_0 : decode cX9_forget 0 = .ok (.aload_n 0, 1) := by decide +kernel
theorem dX9_forget_1 : decode cX9_forget 1 = .ok (.getfield 78, 3) := by decide +kernel
theorem dX9_forget_4 : decode cX9_forget 4 = .ok (.getfield 221, 3) := by decide +kernel
theorem dX9_forget_7 : decode cX9_forget 7 = .ok (.istore_n 1, 1) := by decide +kernel
theorem dX9_forget_8 : decode cX9_forget 8 = .ok (.aload_n 0, 1) := by decide +kernel
theorem dX9_forget_9 : decode cX9_forget 9 = .ok (.getfield 78, 3) := by decide +kernel
theorem dX9_forget_12 : decode cX9_forget 12 = .ok (.invokevirtual 222, 3) := by decide +kernel
theorem dX9_forget_15 : decode cX9_forget 15 = .ok (.iload_n 1, 1) := by decide +kernel
theorem dX9_forget_16 : decode cX9_forget 16 = .ok (.ireturn, 1) := by decide +kernel
theorem dX9_read_0 : decode cX9_read 0 = .ok (.iload_n 1, 1) := by decide +kernel
theorem dX9_read_1 : decode cX9_read 1 = .ok (.iconst 4, 1) := by decide +kernel
theorem dX9_read_2 : decode cX9_read 2 = .ok (.invokestatic 104, 3) := by decide +kernel
theorem dX9_read_5 : decode cX9_read 5 = .ok (.ifCond .ne 6, 3) := by decide +kernel
theorem dX9_read_8 : decode cX9_read 8 = .ok (.bipush (-2), 2) := by decide +kernel
theorem dX9_read_10 : decode cX9_read 10 = .ok (.ireturn, 1) := by decide +kernel
theorem dX9_read_11 : decode cX9_read 11 = .ok (.aload_n 0, 1) := by decide +kernel
theorem dX9_read_12 : decode cX9_read 12 = .ok (.getfield 91, 3) := by decide +kernel
theorem dX9_read_15 : decode cX9_read 15 = .ok (.iload_n 1, 1) := by decide +kernel
theorem dX9_read_16 : decode cX9_read 16 = .ok (.aaload, 1) := by decide +kernel
theorem dX9_read_17 : decode cX9_read 17 = .ok (.astore_n 2, 1) := by decide +kernel
theorem dX9_read_18 : decode cX9_read 18 = .ok (.aload_n 2, 1) := by decide +kernel
theorem dX9_read_19 : decode cX9_read 19 = .ok (.invokevirtual 225, 3) := by decide +kernel
theorem dX9_read_22 : decode cX9_read 22 = .ok (.ifCond .eq 9, 3) := by decide +kernel
theorem dX9_read_25 : decode cX9_read 25 = .ok (.aload_n 0, 1) := by decide +kernel
theorem dX9_read_26 : decode cX9_read 26 = .ok (.iconst 1, 1) := by decide +kernel
theorem dX9_read_27 : decode cX9_read 27 = .ok (.invokevirtual 228, 3) := by decide +kernel
theorem dX9_read_30 : decode cX9_read 30 = .ok (.ireturn, 1) := by decide +kernel
theorem dX9_read_31 : decode cX9_read 31 = .ok (.iconst 0, 1) := by decide +kernel
theorem dX9_read_32 : decode cX9_read 32 = .ok (.istore_n 3, 1) := by decide +kernel
theorem dX9_read_33 : decode cX9_read 33 = .ok (.iconst 0, 1) := by decide +kernel
theorem dX9_read_34 : decode cX9_read 34 = .ok (.istore 4, 2) := by decide +kernel
theorem dX9_read_36 : decode cX9_read 36 = .ok (.iload 4, 2) := by decide +kernel
theorem dX9_read_38 : decode cX9_read 38 = .ok (.iconst 1, 1) := by decide +kernel
theorem dX9_read_39 : decode cX9_read 39 = .ok (.iadd, 1) := by decide +kernel
theorem dX9_read_40 : decode cX9_read 40 = .ok (.aload_n 2, 1) := by decide +kernel
theorem dX9_read_41 : decode cX9_read 41 = .ok (.getfield 231, 3) := by decide +kernel
theorem dX9_read_44 : decode cX9_read 44 = .ok (.if_icmp .ge 38, 3) := by decide +kernel
theorem dX9_read_47 : decode cX9_read 47 = .ok (.aload_n 0, 1) := by decide +kernel
theorem dX9_read_48 : decode cX9_read 48 = .ok (.aload_n 2, 1) := by decide +kernel
theorem dX9_read_49 : decode cX9_read 49 = .ok (.getfield 232, 3) := by decide +kernel
theorem dX9_read_52 : decode cX9_read 52 = .ok (.iload 4, 2) := by decide +kernel
theorem dX9_read_54 : decode cX9_read 54 = .ok (.iaload, 1) := by decide +kernel
theorem dX9_read_55 : decode cX9_read 55 = .ok (.aload_n 2, 1) := by decide +kernel
theorem dX9_read_56 : decode cX9_read 56 = .ok (.getfield 232, 3) := by decide +kernel
theorem dX9_read_59 : decode cX9_read 59 = .ok (.iload 4, 2) := by decide +kernel
theorem dX9_read_61 : decode cX9_read 61 = .ok (.iconst 1, 1) := by decide +kernel
theorem dX9_read_62 : decode cX9_read 62 = .ok (.iadd, 1) := by decide +kernel
theorem dX9_read_63 : decode cX9_read 63 = .ok (.iaload, 1) := by decide +kernel
theorem dX9_read_64 : decode cX9_read 64 = .ok (.invokevirtual 235, 3) := by decide +kernel
theorem dX9_read_67 : decode cX9_read 67 = .ok (.ifCond .ge 6, 3) := by decide +kernel
theorem dX9_read_70 : decode cX9_read 70 = .ok (.goto 12, 3) := by decide +kernel
theorem dX9_read_73 : decode cX9_read 73 = .ok (.iinc 3 1, 3) := by decide +kernel
theorem dX9_read_76 : decode cX9_read 76 = .ok (.iinc 4 2, 3) := by decide +kernel
theorem dX9_read_79 : decode cX9_read 79 = .ok (.goto (-43), 3) := by decide +kernel
theorem dX9_read_82 : decode cX9_read 82 = .ok (.iload_n 3, 1) := by decide +kernel
theorem dX9_read_83 : decode cX9_read 83 = .ok (.ireturn, 1) := by decide +kernel
theorem dX9_sets_0 : decode cX9_sets 0 = .ok (.iload_n 1, 1) := by decide +kernel
theorem dX9_sets_1 : decode cX9_sets 1 = .ok (.iconst 3, 1) := by decide +kernel
theorem dX9_sets_2 : decode cX9_sets 2 = .ok (.invokestatic 104, 3) := by decide +kernel
theorem dX9_sets_5 : decode cX9_sets 5 = .ok (.ifCond .ne 6, 3) := by decide +kernel
theorem dX9_sets_8 : decode cX9_sets 8 = .ok (.bipush (-2), 2) := by decide +kernel
theorem dX9_sets_10 : decode cX9_sets 10 = .ok (.ireturn, 1) := by decide +kernel
theorem dX9_sets_11 : decode cX9_sets 11 = .ok (.aload_n 0, 1) := by decide +kernel
theorem dX9_sets_12 : decode cX9_sets 12 = .ok (.invokevirtual 126, 3) := by decide +kernel
theorem dX9_sets_15 : decode cX9_sets 15 = .ok (.aload_n 0, 1) := by decide +kernel
theorem dX9_sets_16 : decode cX9_sets 16 = .ok (.getfield 78, 3) := by decide +kernel
theorem dX9_sets_19 : decode cX9_sets 19 = .ok (.aload_n 0, 1) := by decide +kernel
theorem dX9_sets_20 : decode cX9_sets 20 = .ok (.getfield 37, 3) := by decide +kernel
theorem dX9_sets_23 : decode cX9_sets 23 = .ok (.invokevirtual 238, 3) := by decide +kernel
theorem dX9_sets_26 : decode cX9_sets 26 = .ok (.iload_n 1, 1) := by decide +kernel
theorem dX9_sets_27 : decode cX9_sets 27 = .ok (.lookupswitch 41 #[(0, 25), (1, 33)], 25) := by decide +kernel
theorem dX9_sets_52 : decode cX9_sets 52 = .ok (.aload_n 0, 1) := by decide +kernel
theorem dX9_sets_53 : decode cX9_sets 53 = .ok (.getfield 78, 3) := by decide +kernel
theorem dX9_sets_56 : decode cX9_sets 56 = .ok (.getfield 242, 3) := by decide +kernel
theorem dX9_sets_59 : decode cX9_sets 59 = .ok (.ireturn, 1) := by decide +kernel
theorem dX9_sets_60 : decode cX9_sets 60 = .ok (.aload_n 0, 1) := by decide +kernel
theorem dX9_sets_61 : decode cX9_sets 61 = .ok (.getfield 78, 3) := by decide +kernel
theorem dX9_sets_64 : decode cX9_sets 64 = .ok (.invokevirtual 245, 3) := by decide +kernel
theorem dX9_sets_67 : decode cX9_sets 67 = .ok (.ireturn, 1) := by decide +kernel
theorem dX9_sets_68 : decode cX9_sets 68 = .ok (.aload_n 0, 1) := by decide +kernel
theorem dX9_sets_69 : decode cX9_sets 69 = .ok (.getfield 78, 3) := by decide +kernel
theorem dX9_sets_72 : decode cX9_sets 72 = .ok (.getfield 248, 3) := by decide +kernel
theorem dX9_sets_75 : decode cX9_sets 75 = .ok (.ireturn, 1) := by decide +kernel
theorem dX9_watch_0 : decode cX9_watch 0 = .ok (.aload_n 0, 1) := by decide +kernel
theorem dX9_watch_1 : decode cX9_watch 1 = .ok (.invokevirtual 126, 3) := by decide +kernel
theorem dX9_watch_4 : decode cX9_watch 4 = .ok (.aload_n 0, 1) := by decide +kernel
theorem dX9_watch_5 : decode cX9_watch 5 = .ok (.getfield 78, 3) := by decide +kernel
theorem dX9_watch_8 : decode cX9_watch 8 = .ok (.aload_n 0, 1) := by decide +kernel
theorem dX9_watch_9 : decode cX9_watch 9 = .ok (.getfield 37, 3) := by decide +kernel
theorem dX9_watch_12 : decode cX9_watch 12 = .ok (.invokevirtual 238, 3) := by decide +kernel
theorem dX9_watch_15 : decode cX9_watch 15 = .ok (.aload_n 0, 1) := by decide +kernel
theorem dX9_watch_16 : decode cX9_watch 16 = .ok (.getfield 78, 3) := by decide +kernel
theorem dX9_watch_19 : decode cX9_watch 19 = .ok (.aload_n 0, 1) := by decide +kernel
theorem dX9_watch_20 : decode cX9_watch 20 = .ok (.getfield 37, 3) := by decide +kernel
theorem dX9_watch_23 : decode cX9_watch 23 = .ok (.invokevirtual 251, 3) := by decide +kernel
theorem dX9_watch_26 : decode cX9_watch 26 = .ok (.ireturn, 1) := by decide +kernel
theorem dX9_gout_0 : decode cX9_gout 0 = .ok (.iload_n 1, 1) := by decide +kernel
theorem dX9_gout_1 : decode cX9_gout 1 = .ok (.bipush 17, 2) := by decide +kernel
theorem dX9_gout_3 : decode cX9_gout 3 = .ok (.invokestatic 104, 3) := by decide +kernel
theorem dX9_gout_6 : decode cX9_gout 6 = .ok (.ifCond .eq 21, 3) := by decide +kernel
theorem dX9_gout_9 : decode cX9_gout 9 = .ok (.iload_n 2, 1) := by decide +kernel
theorem dX9_gout_10 : decode cX9_gout 10 = .ok (.bipush 30, 2) := by decide +kernel
theorem dX9_gout_12 : decode cX9_gout 12 = .ok (.invokestatic 104, 3) := by decide +kernel
theorem dX9_gout_15 : decode cX9_gout 15 = .ok (.ifCond .eq 12, 3) := by decide +kernel
theorem dX9_gout_18 : decode cX9_gout 18 = .ok (.iload_n 3, 1) := by decide +kernel
theorem dX9_gout_19 : decode cX9_gout 19 = .ok (.bipush 24, 2) := by decide +kernel
theorem dX9_gout_21 : decode cX9_gout 21 = .ok (.invokestatic 104, 3) := by decide +kernel
theorem dX9_gout_24 : decode cX9_gout 24 = .ok (.ifCond .ne 7, 3) := by decide +kernel
theorem dX9_gout_27 : decode cX9_gout 27 = .ok (.ldc2_w 255, 3) := by decide +kernel
theorem dX9_gout_30 : decode cX9_gout 30 = .ok (.lreturn, 1) := by decide +kernel
theorem dX9_gout_31 : decode cX9_gout 31 = .ok (.iload 4, 2) := by decide +kernel
theorem dX9_gout_33 : decode cX9_gout 33 = .ok (.invokestatic 183, 3) := by decide +kernel
theorem dX9_gout_36 : decode cX9_gout 36 = .ok (.ifCond .ne 10, 3) := by decide +kernel
theorem dX9_gout_39 : decode cX9_gout 39 = .ok (.iload 4, 2) := by decide +kernel
theorem dX9_gout_41 : decode cX9_gout 41 = .ok (.bipush 6, 2) := by decide +kernel
theorem dX9_gout_43 : decode cX9_gout 43 = .ok (.if_icmp .ne 12, 3) := by decide +kernel
theorem dX9_gout_46 : decode cX9_gout 46 = .ok (.iload 5, 2) := by decide +kernel
theorem dX9_gout_48 : decode cX9_gout 48 = .ok (.iconst 2, 1) := by decide +kernel
theorem dX9_gout_49 : decode cX9_gout 49 = .ok (.invokestatic 104, 3) := by decide +kernel
theorem dX9_gout_52 : decode cX9_gout 52 = .ok (.ifCond .ne 7, 3) := by decide +kernel
theorem dX9_gout_55 : decode cX9_gout 55 = .ok (.ldc2_w 255, 3) := by decide +kernel
theorem dX9_gout_58 : decode cX9_gout 58 = .ok (.lreturn, 1) := by decide +kernel
theorem dX9_gout_59 : decode cX9_gout 59 = .ok (.aload_n 0, 1) := by decide +kernel
theorem dX9_gout_60 : decode cX9_gout 60 = .ok (.getfield 85, 3) := by decide +kernel
theorem dX9_gout_63 : decode cX9_gout 63 = .ok (.aload_n 0, 1) := by decide +kernel
theorem dX9_gout_64 : decode cX9_gout 64 = .ok (.getfield 37, 3) := by decide +kernel
theorem dX9_gout_67 : decode cX9_gout 67 = .ok (.aload_n 0, 1) := by decide +kernel
theorem dX9_gout_68 : decode cX9_gout 68 = .ok (.iload_n 2, 1) := by decide +kernel
theorem dX9_gout_69 : decode cX9_gout 69 = .ok (.invokevirtual 164, 3) := by decide +kernel
theorem dX9_gout_72 : decode cX9_gout 72 = .ok (.iload_n 3, 1) := by decide +kernel
theorem dX9_gout_73 : decode cX9_gout 73 = .ok (.iload_n 1, 1) := by decide +kernel
theorem dX9_gout_74 : decode cX9_gout 74 = .ok (.iload 4, 2) := by decide +kernel
theorem dX9_gout_76 : decode cX9_gout 76 = .ok (.invokevirtual 257, 3) := by decide +kernel
theorem dX9_gout_79 : decode cX9_gout 79 = .ok (.iload 5, 2) := by decide +kernel
theorem dX9_gout_81 : decode cX9_gout 81 = .ok (.ifCond .ne 13, 3) := by decide +kernel
theorem dX9_gout_84 : decode cX9_gout 84 = .ok (.aload_n 0, 1) := by decide +kernel
theorem dX9_gout_85 : decode cX9_gout 85 = .ok (.getfield 85, 3) := by decide +kernel
theorem dX9_gout_88 : decode cX9_gout 88 = .ok (.getfield 261, 3) := by decide +kernel
theorem dX9_gout_91 : decode cX9_gout 91 = .ok (.goto 10, 3) := by decide +kernel
theorem dX9_gout_94 : decode cX9_gout 94 = .ok (.aload_n 0, 1) := by decide +kernel
theorem dX9_gout_95 : decode cX9_gout 95 = .ok (.getfield 85, 3) := by decide +kernel
theorem dX9_gout_98 : decode cX9_gout 98 = .ok (.getfield 265, 3) := by decide +kernel
theorem dX9_gout_101 : decode cX9_gout 101 = .ok (.lreturn, 1) := by decide +kernel
theorem dX9_years_0 : decode cX9_years 0 = .ok (.aload_n 0, 1) := by decide +kernel
theorem dX9_years_1 : decode cX9_years 1 = .ok (.invokevirtual 126, 3) := by decide +kernel
theorem dX9_years_4 : decode cX9_years 4 = .ok (.aload_n 0, 1) := by decide +kernel
theorem dX9_years_5 : decode cX9_years 5 = .ok (.getfield 37, 3) := by decide +kernel
theorem dX9_years_8 : decode cX9_years 8 = .ok (.getfield 132, 3) := by decide +kernel
theorem dX9_years_11 : decode cX9_years 11 = .ok (.ifCond .eq 22, 3) := by decide +kernel
theorem dX9_years_14 : decode cX9_years 14 = .ok (.iload_n 2, 1) := by decide +kernel
theorem dX9_years_15 : decode cX9_years 15 = .ok (.iconst 1, 1) := by decide +kernel
theorem dX9_years_16 : decode cX9_years 16 = .ok (.if_icmp .lt 17, 3) := by decide +kernel
theorem dX9_years_19 : decode cX9_years 19 = .ok (.iload_n 2, 1) := by decide +kernel
theorem dX9_years_20 : decode cX9_years 20 = .ok (.bipush 30, 2) := by decide +kernel
theorem dX9_years_22 : decode cX9_years 22 = .ok (.if_icmp .gt 11, 3) := by decide +kernel
theorem dX9_years_25 : decode cX9_years 25 = .ok (.iload_n 3, 1) := by decide +kernel
theorem dX9_years_26 : decode cX9_years 26 = .ok (.iconst 2, 1) := by decide +kernel
theorem dX9_years_27 : decode cX9_years 27 = .ok (.invokestatic 104, 3) := by decide +kernel
theorem dX9_years_30 : decode cX9_years 30 = .ok (.ifCond .ne 6, 3) := by decide +kernel
theorem dX9_years_33 : decode cX9_years 33 = .ok (.bipush (-2), 2) := by decide +kernel
theorem dX9_years_35 : decode cX9_years 35 = .ok (.ireturn, 1) := by decide +kernel
theorem dX9_years_36 : decode cX9_years 36 = .ok (.aload_n 0, 1) := by decide +kernel
theorem dX9_years_37 : decode cX9_years 37 = .ok (.getfield 58, 3) := by decide +kernel
theorem dX9_years_40 : decode cX9_years 40 = .ok (.iload_n 1, 1) := by decide +kernel
theorem dX9_years_41 : decode cX9_years 41 = .ok (.iload_n 2, 1) := by decide +kernel
theorem dX9_years_42 : decode cX9_years 42 = .ok (.aload_n 0, 1) := by decide +kernel
theorem dX9_years_43 : decode cX9_years 43 = .ok (.getfield 37, 3) := by decide +kernel
theorem dX9_years_46 : decode cX9_years 46 = .ok (.getfield 132, 3) := by decide +kernel
theorem dX9_years_49 : decode cX9_years 49 = .ok (.invokevirtual 268, 3) := by decide +kernel
theorem dX9_years_52 : decode cX9_years 52 = .ok (.iload_n 3, 1) := by decide +kernel
theorem dX9_years_53 : decode cX9_years 53 = .ok (.ifCond .ne 20, 3) := by decide +kernel
theorem dX9_years_56 : decode cX9_years 56 = .ok (.aload_n 0, 1) := by decide +kernel
theorem dX9_years_57 : decode cX9_years 57 = .ok (.getfield 58, 3) := by decide +kernel
theorem dX9_years_60 : decode cX9_years 60 = .ok (.aload_n 0, 1) := by decide +kernel
theorem dX9_years_61 : decode cX9_years 61 = .ok (.getfield 37, 3) := by decide +kernel
theorem dX9_years_64 : decode cX9_years 64 = .ok (.bipush 29, 2) := by decide +kernel
theorem dX9_years_66 : decode cX9_years 66 = .ok (.invokevirtual 158, 3) := by decide +kernel
theorem dX9_years_69 : decode cX9_years 69 = .ok (.invokestatic 191, 3) := by decide +kernel
theorem dX9_years_72 : decode cX9_years 72 = .ok (.ireturn, 1) := by decide +kernel
theorem dX9_years_73 : decode cX9_years 73 = .ok (.aload_n 0, 1) := by decide +kernel
theorem dX9_years_74 : decode cX9_years 74 = .ok (.getfield 37, 3) := by decide +kernel
theorem dX9_years_77 : decode cX9_years 77 = .ok (.aload_n 0, 1) := by decide +kernel
theorem dX9_years_78 : decode cX9_years 78 = .ok (.getfield 58, 3) := by decide +kernel
theorem dX9_years_81 : decode cX9_years 81 = .ok (.aload_n 0, 1) := by decide +kernel
theorem dX9_years_82 : decode cX9_years 82 = .ok (.getfield 37, 3) := by decide +kernel
theorem dX9_years_85 : decode cX9_years 85 = .ok (.bipush 29, 2) := by decide +kernel
theorem dX9_years_87 : decode cX9_years 87 = .ok (.invokevirtual 154, 3) := by decide +kernel
theorem dX9_years_90 : decode cX9_years 90 = .ok (.invokevirtual 171, 3) := by decide +kernel
theorem dX9_years_93 : decode cX9_years 93 = .ok (.ireturn, 1) := by decide +kernel
theorem dX9_sheet_0 : decode cX9_sheet 0 = .ok (.iload_n 1, 1) := by decide +kernel
theorem dX9_sheet_1 : decode cX9_sheet 1 = .ok (.iconst 4, 1) := by decide +kernel
theorem dX9_sheet_2 : decode cX9_sheet 2 = .ok (.invokestatic 104, 3) := by decide +kernel
theorem dX9_sheet_5 : decode cX9_sheet 5 = .ok (.ifCond .eq 17, 3) := by decide +kernel
theorem dX9_sheet_8 : decode cX9_sheet 8 = .ok (.iload_n 2, 1) := by decide +kernel
theorem dX9_sheet_9 : decode cX9_sheet 9 = .ok (.iconst 3, 1) := by decide +kernel
theorem dX9_sheet_10 : decode cX9_sheet 10 = .ok (.invokestatic 104, 3) := by decide +kernel
theorem dX9_sheet_13 : decode cX9_sheet 13 = .ok (.ifCond .eq 9, 3) := by decide +kernel
theorem dX9_sheet_16 : decode cX9_sheet 16 = .ok (.iload_n 3, 1) := by decide +kernel
theorem dX9_sheet_17 : decode cX9_sheet 17 = .ok (.bipush 60, 2) := by decide +kernel
theorem dX9_sheet_19 : decode cX9_sheet 19 = .ok (.if_icmp .le 6, 3) := by decide +kernel
theorem dX9_sheet_22 : decode cX9_sheet 22 = .ok (.bipush (-2), 2) := by decide +kernel
theorem dX9_sheet_24 : decode cX9_sheet 24 = .ok (.ireturn, 1) := by decide +kernel
theorem dX9_sheet_25 : decode cX9_sheet 25 = .ok (.iload_n 3, 1) := by decide +kernel
theorem dX9_sheet_26 : decode cX9_sheet 26 = .ok (.ifCond .ge 9, 3) := by decide +kernel
theorem dX9_sheet_29 : decode cX9_sheet 29 = .ok (.aload_n 0, 1) := by decide +kernel
theorem dX9_sheet_30 : decode cX9_sheet 30 = .ok (.iconst 5, 1) := by decide +kernel
theorem dX9_sheet_31 : decode cX9_sheet 31 = .ok (.invokevirtual 228, 3) := by decide +kernel
theorem dX9_sheet_34 : decode cX9_sheet 34 = .ok (.ireturn, 1) := by decide +kernel
theorem dX9_sheet_35 : decode cX9_sheet 35 = .ok (.aload_n 0, 1) := by decide +kernel
theorem dX9_sheet_36 : decode cX9_sheet 36 = .ok (.getfield 91, 3) := by decide +kernel
theorem dX9_sheet_39 : decode cX9_sheet 39 = .ok (.iload_n 1, 1) := by decide +kernel
theorem dX9_sheet_40 : decode cX9_sheet 40 = .ok (.aaload, 1) := by decide +kernel
theorem dX9_sheet_41 : decode cX9_sheet 41 = .ok (.iload_n 2, 1) := by decide +kernel
theorem dX9_sheet_42 : decode cX9_sheet 42 = .ok (.iload_n 3, 1) := by decide +kernel
theorem dX9_sheet_43 : decode cX9_sheet 43 = .ok (.invokevirtual 272, 3) := by decide +kernel
theorem dX9_sheet_46 : decode cX9_sheet 46 = .ok (.iload_n 3, 1) := by decide +kernel
theorem dX9_sheet_47 : decode cX9_sheet 47 = .ok (.ireturn, 1) := by decide +kernel
theorem dX9_lose_0 : decode cX9_lose 0 = .ok (.iload_n 1, 1) := by decide +kernel
theorem dX9_lose_1 : decode cX9_lose 1 = .ok (.iconst 4, 1) := by decide +kernel
theorem dX9_lose_2 : decode cX9_lose 2 = .ok (.invokestatic 104, 3) := by decide +kernel
theorem dX9_lose_5 : decode cX9_lose 5 = .ok (.ifCond .ne 6, 3) := by decide +kernel
theorem dX9_lose_8 : decode cX9_lose 8 = .ok (.bipush (-2), 2) := by decide +kernel
theorem dX9_lose_10 : decode cX9_lose 10 = .ok (.ireturn, 1) := by decide +kernel
theorem dX9_lose_11 : decode cX9_lose 11 = .ok (.aload_n 0, 1) := by decide +kernel
theorem dX9_lose_12 : decode cX9_lose 12 = .ok (.getfield 91, 3) := by decide +kernel
theorem dX9_lose_15 : decode cX9_lose 15 = .ok (.iload_n 1, 1) := by decide +kernel
theorem dX9_lose_16 : decode cX9_lose 16 = .ok (.aaload, 1) := by decide +kernel
theorem dX9_lose_17 : decode cX9_lose 17 = .ok (.astore_n 2, 1) := by decide +kernel
theorem dX9_lose_18 : decode cX9_lose 18 = .ok (.aload_n 2, 1) := by decide +kernel
theorem dX9_lose_19 : decode cX9_lose 19 = .ok (.invokevirtual 225, 3) := by decide +kernel
theorem dX9_lose_22 : decode cX9_lose 22 = .ok (.ifCond .eq 9, 3) := by decide +kernel
theorem dX9_lose_25 : decode cX9_lose 25 = .ok (.aload_n 0, 1) := by decide +kernel
theorem dX9_lose_26 : decode cX9_lose 26 = .ok (.iconst 1, 1) := by decide +kernel
theorem dX9_lose_27 : decode cX9_lose 27 = .ok (.invokevirtual 228, 3) := by decide +kernel
theorem dX9_lose_30 : decode cX9_lose 30 = .ok (.ireturn, 1) := by decide +kernel
theorem dX9_lose_31 : decode cX9_lose 31 = .ok (.aload_n 2, 1) := by decide +kernel
theorem dX9_lose_32 : decode cX9_lose 32 = .ok (.getfield 231, 3) := by decide +kernel
theorem dX9_lose_35 : decode cX9_lose 35 = .ok (.istore_n 3, 1) := by decide +kernel
theorem dX9_lose_36 : decode cX9_lose 36 = .ok (.aload_n 2, 1) := by decide +kernel
theorem dX9_lose_37 : decode cX9_lose 37 = .ok (.iconst (-1), 1) := by decide +kernel
theorem dX9_lose_38 : decode cX9_lose 38 = .ok (.putfield 231, 3) := by decide +kernel
theorem dX9_lose_41 : decode cX9_lose 41 = .ok (.iload_n 3, 1) := by decide +kernel
theorem dX9_lose_42 : decode cX9_lose 42 = .ok (.ireturn, 1) := by decide +kernel
theorem dX9_lay_0 : decode cX9_lay 0 = .ok (.aload_n 0, 1) := by decide +kernel
theorem dX9_lay_1 : decode cX9_lay 1 = .ok (.iload_n 1, 1) := by decide +kernel
theorem dX9_lay_2 : decode cX9_lay 2 = .ok (.iload_n 2, 1) := by decide +kernel
theorem dX9_lay_3 : decode cX9_lay 3 = .ok (.iload_n 3, 1) := by decide +kernel
theorem dX9_lay_4 : decode cX9_lay 4 = .ok (.invokevirtual 275, 3) := by decide +kernel
theorem dX9_lay_7 : decode cX9_lay 7 = .ok (.istore 5, 2) := by decide +kernel
theorem dX9_lay_9 : decode cX9_lay 9 = .ok (.iload 5, 2) := by decide +kernel
theorem dX9_lay_11 : decode cX9_lay 11 = .ok (.ifCond .eq 6, 3) := by decide +kernel
theorem dX9_lay_14 : decode cX9_lay 14 = .ok (.iload 5, 2) := by decide +kernel
theorem dX9_lay_16 : decode cX9_lay 16 = .ok (.ireturn, 1) := by decide +kernel
theorem dX9_lay_17 : decode cX9_lay 17 = .ok (.aload_n 0, 1) := by decide +kernel
theorem dX9_lay_18 : decode cX9_lay 18 = .ok (.getfield 91, 3) := by decide +kernel
theorem dX9_lay_21 : decode cX9_lay 21 = .ok (.iload_n 1, 1) := by decide +kernel
theorem dX9_lay_22 : decode cX9_lay 22 = .ok (.aaload, 1) := by decide +kernel
theorem dX9_lay_23 : decode cX9_lay 23 = .ok (.iload_n 3, 1) := by decide +kernel
theorem dX9_lay_24 : decode cX9_lay 24 = .ok (.iload 4, 2) := by decide +kernel
theorem dX9_lay_26 : decode cX9_lay 26 = .ok (.invokevirtual 278, 3) := by decide +kernel
theorem dX9_lay_29 : decode cX9_lay 29 = .ok (.iconst 1, 1) := by decide +kernel
theorem dX9_lay_30 : decode cX9_lay 30 = .ok (.ireturn, 1) := by decide +kernel
theorem dX9_get_0 : decode cX9_get 0 = .ok (.aload_n 0, 1) := by decide +kernel
theorem dX9_get_1 : decode cX9_get 1 = .ok (.iload_n 1, 1) := by decide +kernel
theorem dX9_get_2 : decode cX9_get 2 = .ok (.iload_n 2, 1) := by decide +kernel
theorem dX9_get_3 : decode cX9_get 3 = .ok (.iload_n 3, 1) := by decide +kernel
theorem dX9_get_4 : decode cX9_get 4 = .ok (.invokevirtual 275, 3) := by decide +kernel
theorem dX9_get_7 : decode cX9_get 7 = .ok (.ifCond .eq 9, 3) := by decide +kernel
theorem dX9_get_10 : decode cX9_get 10 = .ok (.ldc_w 281, 3) := by decide +kernel
theorem dX9_get_13 : decode cX9_get 13 = .ok (.goto 14, 3) := by decide +kernel
theorem dX9_get_16 : decode cX9_get 16 = .ok (.aload_n 0, 1) := by decide +kernel
theorem dX9_get_17 : decode cX9_get 17 = .ok (.getfield 91, 3) := by decide +kernel
theorem dX9_get_20 : decode cX9_get 20 = .ok (.iload_n 1, 1) := by decide +kernel
theorem dX9_get_21 : decode cX9_get 21 = .ok (.aaload, 1) := by decide +kernel
theorem dX9_get_22 : decode cX9_get 22 = .ok (.getfield 232, 3) := by decide +kernel
theorem dX9_get_25 : decode cX9_get 25 = .ok (.iload_n 3, 1) := by decide +kernel
theorem dX9_get_26 : decode cX9_get 26 = .ok (.iaload, 1) := by decide +kernel
theorem dX9_get_27 : decode cX9_get 27 = .ok (.ireturn, 1) := by decide +kernel
theorem dX9_copy_0 : decode cX9_copy 0 = .ok (.iload_n 1, 1) := by decide +kernel
theorem dX9_copy_1 : decode cX9_copy 1 = .ok (.iconst 4, 1) := by decide +kernel
theorem dX9_copy_2 : decode cX9_copy 2 = .ok (.invokestatic 104, 3) := by decide +kernel
theorem dX9_copy_5 : decode cX9_copy 5 = .ok (.ifCond .eq 11, 3) := by decide +kernel
theorem dX9_copy_8 : decode cX9_copy 8 = .ok (.iload_n 3, 1) := by decide +kernel
theorem dX9_copy_9 : decode cX9_copy 9 = .ok (.iconst 4, 1) := by decide +kernel
theorem dX9_copy_10 : decode cX9_copy 10 = .ok (.invokestatic 104, 3) := by decide +kernel
theorem dX9_copy_13 : decode cX9_copy 13 = .ok (.ifCond .ne 6, 3) := by decide +kernel
theorem dX9_copy_16 : decode cX9_copy 16 = .ok (.bipush (-2), 2) := by decide +kernel
theorem dX9_copy_18 : decode cX9_copy 18 = .ok (.ireturn, 1) := by decide +kernel
theorem dX9_copy_19 : decode cX9_copy 19 = .ok (.aload_n 0, 1) := by decide +kernel
theorem dX9_copy_20 : decode cX9_copy 20 = .ok (.getfield 91, 3) := by decide +kernel
theorem dX9_copy_23 : decode cX9_copy 23 = .ok (.iload_n 1, 1) := by decide +kernel
theorem dX9_copy_24 : decode cX9_copy 24 = .ok (.aaload, 1) := by decide +kernel
theorem dX9_copy_25 : decode cX9_copy 25 = .ok (.astore 6, 2) := by decide +kernel
theorem dX9_copy_27 : decode cX9_copy 27 = .ok (.aload_n 0, 1) := by decide +kernel
theorem dX9_copy_28 : decode cX9_copy 28 = .ok (.getfield 91, 3) := by decide +kernel
theorem dX9_copy_31 : decode cX9_copy 31 = .ok (.iload_n 3, 1) := by decide +kernel
theorem dX9_copy_32 : decode cX9_copy 32 = .ok (.aaload, 1) := by decide +kernel
theorem dX9_copy_33 : decode cX9_copy 33 = .ok (.astore 7, 2) := by decide +kernel
theorem dX9_copy_35 : decode cX9_copy 35 = .ok (.aload 6, 2) := by decide +kernel
theorem dX9_copy_37 : decode cX9_copy 37 = .ok (.invokevirtual 225, 3) := by decide +kernel
theorem dX9_copy_40 : decode cX9_copy 40 = .ok (.ifCond .ne 11, 3) := by decide +kernel
theorem dX9_copy_43 : decode cX9_copy 43 = .ok (.aload 7, 2) := by decide +kernel
theorem dX9_copy_45 : decode cX9_copy 45 = .ok (.invokevirtual 225, 3) := by decide +kernel
theorem dX9_copy_48 : decode cX9_copy 48 = .ok (.ifCond .eq 9, 3) := by decide +kernel
theorem dX9_copy_51 : decode cX9_copy 51 = .ok (.aload_n 0, 1) := by decide +kernel
theorem dX9_copy_52 : decode cX9_copy 52 = .ok (.iconst 1, 1) := by decide +kernel
theorem dX9_copy_53 : decode cX9_copy 53 = .ok (.invokevirtual 228, 3) := by decide +kernel
theorem dX9_copy_56 : decode cX9_copy 56 = .ok (.ireturn, 1) := by decide +kernel
theorem dX9_copy_57 : decode cX9_copy 57 = .ok (.aload 6, 2) := by decide +kernel
theorem dX9_copy_59 : decode cX9_copy 59 = .ok (.getfield 282, 3) := by decide +kernel
theorem dX9_copy_62 : decode cX9_copy 62 = .ok (.aload 7, 2) := by decide +kernel
theorem dX9_copy_64 : decode cX9_copy 64 = .ok (.getfield 282, 3) := by decide +kernel
theorem dX9_copy_67 : decode cX9_copy 67 = .ok (.if_icmp .eq 9, 3) := by decide +kernel
theorem dX9_copy_70 : decode cX9_copy 70 = .ok (.aload_n 0, 1) := by decide +kernel
theorem dX9_copy_71 : decode cX9_copy 71 = .ok (.iconst 4, 1) := by decide +kernel
theorem dX9_copy_72 : decode cX9_copy 72 = .ok (.invokevirtual 228, 3) := by decide +kernel
theorem dX9_copy_75 : decode cX9_copy 75 = .ok (.ireturn, 1) := by decide +kernel
theorem dX9_copy_76 : decode cX9_copy 76 = .ok (.aload 6, 2) := by decide +kernel
theorem dX9_copy_78 : decode cX9_copy 78 = .ok (.iload_n 2, 1) := by decide +kernel
theorem dX9_copy_79 : decode cX9_copy 79 = .ok (.iload 5, 2) := by decide +kernel
theorem dX9_copy_81 : decode cX9_copy 81 = .ok (.invokevirtual 285, 3) := by decide +kernel
theorem dX9_copy_84 : decode cX9_copy 84 = .ok (.ifCond .eq 15, 3) := by decide +kernel
theorem dX9_copy_87 : decode cX9_copy 87 = .ok (.aload 7, 2) := by decide +kernel
theorem dX9_copy_89 : decode cX9_copy 89 = .ok (.iload 4, 2) := by decide +kernel
theorem dX9_copy_91 : decode cX9_copy 91 = .ok (.iload 5, 2) := by decide +kernel
theorem dX9_copy_93 : decode cX9_copy 93 = .ok (.invokevirtual 285, 3) := by decide +kernel
theorem dX9_copy_96 : decode cX9_copy 96 = .ok (.ifCond .ne 9, 3) := by decide +kernel
theorem dX9_copy_99 : decode cX9_copy 99 = .ok (.aload_n 0, 1) := by decide +kernel
theorem dX9_copy_100 : decode cX9_copy 100 = .ok (.iconst 2, 1) := by decide +kernel
theorem dX9_copy_101 : decode cX9_copy 101 = .ok (.invokevirtual 228, 3) := by decide +kernel
theorem dX9_copy_104 : decode cX9_copy 104 = .ok (.ireturn, 1) := by decide +kernel
theorem dX9_copy_105 : decode cX9_copy 105 = .ok (.aload 6, 2) := by decide +kernel
theorem dX9_copy_107 : decode cX9_copy 107 = .ok (.getfield 232, 3) := by decide +kernel
theorem dX9_copy_110 : decode cX9_copy 110 = .ok (.iload_n 2, 1) := by decide +kernel
theorem dX9_copy_111 : decode cX9_copy 111 = .ok (.aload 7, 2) := by decide +kernel
theorem dX9_copy_113 : decode cX9_copy 113 = .ok (.getfield 232, 3) := by decide +kernel
theorem dX9_copy_116 : decode cX9_copy 116 = .ok (.iload 4, 2) := by decide +kernel
theorem dX9_copy_118 : decode cX9_copy 118 = .ok (.iload 5, 2) := by decide +kernel
theorem dX9_copy_120 : decode cX9_copy 120 = .ok (.invokestatic 288, 3) := by decide +kernel
theorem dX9_copy_123 : decode cX9_copy 123 = .ok (.iconst 1, 1) := by decide +kernel
theorem dX9_copy_124 : decode cX9_copy 124 = .ok (.ireturn, 1) := by decide +kernel
theorem dX9_write_0 : decode cX9_write 0 = .ok (.iload_n 1, 1) := by decide +kernel
theorem dX9_write_1 : decode cX9_write 1 = .ok (.bipush 30, 2) := by decide +kernel
theorem dX9_write_3 : decode cX9_write 3 = .ok (.invokestatic 104, 3) := by decide +kernel
theorem dX9_write_6 : decode cX9_write 6 = .ok (.ifCond .eq 11, 3) := by decide +kernel
theorem dX9_write_9 : decode cX9_write 9 = .ok (.iload_n 2, 1) := by decide +kernel
theorem dX9_write_10 : decode cX9_write 10 = .ok (.iconst 4, 1) := by decide +kernel
theorem dX9_write_11 : decode cX9_write 11 = .ok (.invokestatic 104, 3) := by decide +kernel
theorem dX9_write_14 : decode cX9_write 14 = .ok (.ifCond .ne 6, 3) := by decide +kernel
theorem dX9_write_17 : decode cX9_write 17 = .ok (.bipush (-2), 2) := by decide +kernel
theorem dX9_write_19 : decode cX9_write 19 = .ok (.ireturn, 1) := by decide +kernel
theorem dX9_write_20 : decode cX9_write 20 = .ok (.aload_n 0, 1) := by decide +kernel
theorem dX9_write_21 : decode cX9_write 21 = .ok (.getfield 91, 3) := by decide +kernel
theorem dX9_write_24 : decode cX9_write 24 = .ok (.iload_n 2, 1) := by decide +kernel
theorem dX9_write_25 : decode cX9_write 25 = .ok (.aaload, 1) := by decide +kernel
theorem dX9_write_26 : decode cX9_write 26 = .ok (.astore_n 3, 1) := by decide +kernel
theorem dX9_write_27 : decode cX9_write 27 = .ok (.aload_n 3, 1) := by decide +kernel
theorem dX9_write_28 : decode cX9_write 28 = .ok (.invokevirtual 225, 3) := by decide +kernel
theorem dX9_write_31 : decode cX9_write 31 = .ok (.ifCond .eq 9, 3) := by decide +kernel
theorem dX9_write_34 : decode cX9_write 34 = .ok (.aload_n 0, 1) := by decide +kernel
theorem dX9_write_35 : decode cX9_write 35 = .ok (.iconst 1, 1) := by decide +kernel
theorem dX9_write_36 : decode cX9_write 36 = .ok (.invokevirtual 228, 3) := by decide +kernel
theorem dX9_write_39 : decode cX9_write 39 = .ok (.ireturn, 1) := by decide +kernel
theorem dX9_write_40 : decode cX9_write 40 = .ok (.aload_n 0, 1) := by decide +kernel
theorem dX9_write_41 : decode cX9_write 41 = .ok (.iload_n 1, 1) := by decide +kernel
theorem dX9_write_42 : decode cX9_write 42 = .ok (.invokevirtual 164, 3) := by decide +kernel
theorem dX9_write_45 : decode cX9_write 45 = .ok (.istore 4, 2) := by decide +kernel
theorem dX9_write_47 : decode cX9_write 47 = .ok (.aload_n 3, 1) := by decide +kernel
theorem dX9_write_48 : decode cX9_write 48 = .ok (.getfield 231, 3) := by decide +kernel
theorem dX9_write_51 : decode cX9_write 51 = .ok (.bipush 24, 2) := by decide +kernel
theorem dX9_write_53 : decode cX9_write 53 = .ok (.invokestatic 294, 3) := by decide +kernel
theorem dX9_write_56 : decode cX9_write 56 = .ok (.istore 5, 2) := by decide +kernel
theorem dX9_write_58 : decode cX9_write 58 = .ok (.iconst 0, 1) := by decide +kernel
theorem dX9_write_59 : decode cX9_write 59 = .ok (.istore 6, 2) := by decide +kernel
theorem dX9_write_61 : decode cX9_write 61 = .ok (.iload 6, 2) := by decide +kernel
theorem dX9_write_63 : decode cX9_write 63 = .ok (.iload 5, 2) := by decide +kernel
theorem dX9_write_65 : decode cX9_write 65 = .ok (.if_icmp .ge 26, 3) := by decide +kernel
theorem dX9_write_68 : decode cX9_write 68 = .ok (.aload_n 3, 1) := by decide +kernel
theorem dX9_write_69 : decode cX9_write 69 = .ok (.iload 6, 2) := by decide +kernel
theorem dX9_write_71 : decode cX9_write 71 = .ok (.aload_n 0, 1) := by decide +kernel
theorem dX9_write_72 : decode cX9_write 72 = .ok (.getfield 37, 3) := by decide +kernel
theorem dX9_write_75 : decode cX9_write 75 = .ok (.iload 4, 2) := by decide +kernel
theorem dX9_write_77 : decode cX9_write 77 = .ok (.iload 6, 2) := by decide +kernel
theorem dX9_write_79 : decode cX9_write 79 = .ok (.invokevirtual 168, 3) := by decide +kernel
theorem dX9_write_82 : decode cX9_write 82 = .ok (.invokevirtual 278, 3) := by decide +kernel
theorem dX9_write_85 : decode cX9_write 85 = .ok (.iinc 6 1, 3) := by decide +kernel
theorem dX9_write_88 : decode cX9_write 88 = .ok (.goto (-27), 3) := by decide +kernel
theorem dX9_write_91 : decode cX9_write 91 = .ok (.iload 5, 2) := by decide +kernel
theorem dX9_write_93 : decode cX9_write 93 = .ok (.ireturn, 1) := by decide +kernel
theorem dX9_count_0 : decode cX9_count 0 = .ok (.aload_n 0, 1) := by decide +kernel
theorem dX9_count_1 : decode cX9_count 1 = .ok (.invokevirtual 126, 3) := by decide +kernel
theorem dX9_count_4 : decode cX9_count 4 = .ok (.iload_n 1, 1) := by decide +kernel
theorem dX9_count_5 : decode cX9_count 5 = .ok (.tableswitch 129 0 8 #[51, 59, 67, 75, 83, 91, 99, 107, 124], 51) := by decide +kernel
theorem dX9_count_56 : decode cX9_count 56 = .ok (.aload_n 0, 1) := by decide +kernel
theorem dX9_count_57 : decode cX9_count 57 = .ok (.getfield 37, 3) := by decide +kernel
theorem dX9_count_60 : decode cX9_count 60 = .ok (.getfield 132, 3) := by decide +kernel
theorem dX9_count_63 : decode cX9_count 63 = .ok (.ireturn, 1) := by decide +kernel
theorem dX9_count_64 : decode cX9_count 64 = .ok (.aload_n 0, 1) := by decide +kernel
theorem dX9_count_65 : decode cX9_count 65 = .ok (.getfield 31, 3) := by decide +kernel
theorem dX9_count_68 : decode cX9_count 68 = .ok (.getfield 139, 3) := by decide +kernel
theorem dX9_count_71 : decode cX9_count 71 = .ok (.ireturn, 1) := by decide +kernel
theorem dX9_count_72 : decode cX9_count 72 = .ok (.aload_n 0, 1) := by decide +kernel
theorem dX9_count_73 : decode cX9_count 73 = .ok (.getfield 21, 3) := by decide +kernel
theorem dX9_count_76 : decode cX9_count 76 = .ok (.getfield 120, 3) := by decide +kernel
theorem dX9_count_79 : decode cX9_count 79 = .ok (.ireturn, 1) := by decide +kernel
theorem dX9_count_80 : decode cX9_count 80 = .ok (.aload_n 0, 1) := by decide +kernel
theorem dX9_count_81 : decode cX9_count 81 = .ok (.getfield 31, 3) := by decide +kernel
theorem dX9_count_84 : decode cX9_count 84 = .ok (.getfield 120, 3) := by decide +kernel
theorem dX9_count_87 : decode cX9_count 87 = .ok (.ireturn, 1) := by decide +kernel
theorem dX9_count_88 : decode cX9_count 88 = .ok (.aload_n 0, 1) := by decide +kernel
theorem dX9_count_89 : decode cX9_count 89 = .ok (.getfield 44, 3) := by decide +kernel
theorem dX9_count_92 : decode cX9_count 92 = .ok (.getfield 149, 3) := by decide +kernel
theorem dX9_count_95 : decode cX9_count 95 = .ok (.ireturn, 1) := by decide +kernel
theorem dX9_count_96 : decode cX9_count 96 = .ok (.aload_n 0, 1) := by decide +kernel
theorem dX9_count_97 : decode cX9_count 97 = .ok (.getfield 48, 3) := by decide +kernel
theorem dX9_count_100 : decode cX9_count 100 = .ok (.getfield 149, 3) := by decide +kernel
theorem dX9_count_103 : decode cX9_count 103 = .ok (.ireturn, 1) := by decide +kernel
theorem dX9_count_104 : decode cX9_count 104 = .ok (.aload_n 0, 1) := by decide +kernel
theorem dX9_count_105 : decode cX9_count 105 = .ok (.getfield 78, 3) := by decide +kernel
theorem dX9_count_108 : decode cX9_count 108 = .ok (.getfield 221, 3) := by decide +kernel
theorem dX9_count_111 : decode cX9_count 111 = .ok (.ireturn, 1) := by decide +kernel
theorem dX9_count_112 : decode cX9_count 112 = .ok (.aload_n 0, 1) := by decide +kernel
theorem dX9_count_113 : decode cX9_count 113 = .ok (.getfield 54, 3) := by decide +kernel
theorem dX9_count_116 : decode cX9_count 116 = .ok (.aload_n 0, 1) := by decide +kernel
theorem dX9_count_117 : decode cX9_count 117 = .ok (.getfield 37, 3) := by decide +kernel
theorem dX9_count_120 : decode cX9_count 120 = .ok (.bipush 29, 2) := by decide +kernel
theorem dX9_count_122 : decode cX9_count 122 = .ok (.invokevirtual 158, 3) := by decide +kernel
theorem dX9_count_125 : decode cX9_count 125 = .ok (.invokestatic 191, 3) := by decide +kernel
theorem dX9_count_128 : decode cX9_count 128 = .ok (.ireturn, 1) := by decide +kernel
theorem dX9_count_129 : decode cX9_count 129 = .ok (.aload_n 0, 1) := by decide +kernel
theorem dX9_count_130 : decode cX9_count 130 = .ok (.getfield 99, 3) := by decide +kernel
theorem dX9_count_133 : decode cX9_count 133 = .ok (.ireturn, 1) := by decide +kernel
theorem dX9_count_134 : decode cX9_count 134 = .ok (.bipush (-2), 2) := by decide +kernel
theorem dX9_count_136 : decode cX9_count 136 = .ok (.ireturn, 1) := by decide +kernel
theorem dX9_digest_0 : decode cX9_digest 0 = .ok (.ldc2_w 299, 3) := by decide +kernel
theorem dX9_digest_3 : decode cX9_digest 3 = .ok (.lstore_n 1, 1) := by decide +kernel
theorem dX9_digest_4 : decode cX9_digest 4 = .ok (.iconst 0, 1) := by decide +kernel
theorem dX9_digest_5 : decode cX9_digest 5 = .ok (.istore_n 3, 1) := by decide +kernel
theorem dX9_digest_6 : decode cX9_digest 6 = .ok (.iload_n 3, 1) := by decide +kernel
theorem dX9_digest_7 : decode cX9_digest 7 = .ok (.bipush 8, 2) := by decide +kernel
theorem dX9_digest_9 : decode cX9_digest 9 = .ok (.if_icmp .ge 22, 3) := by decide +kernel
theorem dX9_digest_12 : decode cX9_digest 12 = .ok (.ldc2_w 301, 3) := by decide +kernel
theorem dX9_digest_15 : decode cX9_digest 15 = .ok (.lload_n 1, 1) := by decide +kernel
theorem dX9_digest_16 : decode cX9_digest 16 = .ok (.lmul, 1) := by decide +kernel
theorem dX9_digest_17 : decode cX9_digest 17 = .ok (.aload_n 0, 1) := by decide +kernel
theorem dX9_digest_18 : decode cX9_digest 18 = .ok (.iload_n 3, 1) := by decide +kernel
theorem dX9_digest_19 : decode cX9_digest 19 = .ok (.invokevirtual 303, 3) := by decide +kernel
theorem dX9_digest_22 : decode cX9_digest 22 = .ok (.i2l, 1) := by decide +kernel
theorem dX9_digest_23 : decode cX9_digest 23 = .ok (.ladd, 1) := by decide +kernel
theorem dX9_digest_24 : decode cX9_digest 24 = .ok (.lstore_n 1, 1) := by decide +kernel
theorem dX9_digest_25 : decode cX9_digest 25 = .ok (.iinc 3 1, 3) := by decide +kernel
theorem dX9_digest_28 : decode cX9_digest 28 = .ok (.goto (-22), 3) := by decide +kernel
theorem dX9_digest_31 : decode cX9_digest 31 = .ok (.aload_n 0, 1) := by decide +kernel
theorem dX9_digest_32 : decode cX9_digest 32 = .ok (.lload_n 1, 1) := by decide +kernel
theorem dX9_digest_33 : decode cX9_digest 33 = .ok (.invokevirtual 306, 3) := by decide +kernel
theorem dX9_digest_36 : decode cX9_digest 36 = .ok (.lstore_n 1, 1) := by decide +kernel
theorem dX9_digest_37 : decode cX9_digest 37 = .ok (.getstatic 310, 3) := by decide +kernel
theorem dX9_digest_40 : decode cX9_digest 40 = .ok (.astore_n 3, 1) := by decide +kernel
theorem dX9_digest_41 : decode cX9_digest 41 = .ok (.aload_n 3, 1) := by decide +kernel
theorem dX9_digest_42 : decode cX9_digest 42 = .ok (.arraylength, 1) := by decide +kernel
theorem dX9_digest_43 : decode cX9_digest 43 = .ok (.istore 4, 2) := by decide +kernel
theorem dX9_digest_45 : decode cX9_digest 45 = .ok (.iconst 0, 1) := by decide +kernel
theorem dX9_digest_46 : decode cX9_digest 46 = .ok (.istore 5, 2) := by decide +kernel
theorem dX9_digest_48 : decode cX9_digest 48 = .ok (.iload 5, 2) := by decide +kernel
theorem dX9_digest_50 : decode cX9_digest 50 = .ok (.iload 4, 2) := by decide +kernel
theorem dX9_digest_52 : decode cX9_digest 52 = .ok (.if_icmp .ge 23, 3) := by decide +kernel
theorem dX9_digest_55 : decode cX9_digest 55 = .ok (.aload_n 3, 1) := by decide +kernel
theorem dX9_digest_56 : decode cX9_digest 56 = .ok (.iload 5, 2) := by decide +kernel
theorem dX9_digest_58 : decode cX9_digest 58 = .ok (.iaload, 1) := by decide +kernel
theorem dX9_digest_59 : decode cX9_digest 59 = .ok (.istore 6, 2) := by decide +kernel
theorem dX9_digest_61 : decode cX9_digest 61 = .ok (.aload_n 0, 1) := by decide +kernel
theorem dX9_digest_62 : decode cX9_digest 62 = .ok (.lload_n 1, 1) := by decide +kernel
theorem dX9_digest_63 : decode cX9_digest 63 = .ok (.iload 6, 2) := by decide +kernel
theorem dX9_digest_65 : decode cX9_digest 65 = .ok (.invokevirtual 313, 3) := by decide +kernel
theorem dX9_digest_68 : decode cX9_digest 68 = .ok (.lstore_n 1, 1) := by decide +kernel
theorem dX9_digest_69 : decode cX9_digest 69 = .ok (.iinc 5 1, 3) := by decide +kernel
theorem dX9_digest_72 : decode cX9_digest 72 = .ok (.goto (-24), 3) := by decide +kernel
theorem dX9_digest_75 : decode cX9_digest 75 = .ok (.ldc2_w 301, 3) := by decide +kernel
theorem dX9_digest_78 : decode cX9_digest 78 = .ok (.lload_n 1, 1) := by decide +kernel
theorem dX9_digest_79 : decode cX9_digest 79 = .ok (.lmul, 1) := by decide +kernel
theorem dX9_digest_80 : decode cX9_digest 80 = .ok (.aload_n 0, 1) := by decide +kernel
theorem dX9_digest_81 : decode cX9_digest 81 = .ok (.iconst 3, 1) := by decide +kernel
theorem dX9_digest_82 : decode cX9_digest 82 = .ok (.iconst 2, 1) := by decide +kernel
theorem dX9_digest_83 : decode cX9_digest 83 = .ok (.iconst (-1), 1) := by decide +kernel
theorem dX9_digest_84 : decode cX9_digest 84 = .ok (.invokevirtual 317, 3) := by decide +kernel
theorem dX9_digest_87 : decode cX9_digest 87 = .ok (.i2l, 1) := by decide +kernel
theorem dX9_digest_88 : decode cX9_digest 88 = .ok (.ladd, 1) := by decide +kernel
theorem dX9_digest_89 : decode cX9_digest 89 = .ok (.lstore_n 1, 1) := by decide +kernel
theorem dX9_digest_90 : decode cX9_digest 90 = .ok (.ldc2_w 301, 3) := by decide +kernel
theorem dX9_digest_93 : decode cX9_digest 93 = .ok (.lload_n 1, 1) := by decide +kernel
theorem dX9_digest_94 : decode cX9_digest 94 = .ok (.lmul, 1) := by decide +kernel
theorem dX9_digest_95 : decode cX9_digest 95 = .ok (.aload_n 0, 1) := by decide +kernel
theorem dX9_digest_96 : decode cX9_digest 96 = .ok (.iconst 3, 1) := by decide +kernel
theorem dX9_digest_97 : decode cX9_digest 97 = .ok (.iconst 2, 1) := by decide +kernel
theorem dX9_digest_98 : decode cX9_digest 98 = .ok (.iconst 0, 1) := by decide +kernel
theorem dX9_digest_99 : decode cX9_digest 99 = .ok (.invokevirtual 317, 3) := by decide +kernel
theorem dX9_digest_102 : decode cX9_digest 102 = .ok (.i2l, 1) := by decide +kernel
theorem dX9_digest_103 : decode cX9_digest 103 = .ok (.ladd, 1) := by decide +kernel
theorem dX9_digest_104 : decode cX9_digest 104 = .ok (.lstore_n 1, 1) := by decide +kernel
theorem dX9_digest_105 : decode cX9_digest 105 = .ok (.iconst 0, 1) := by decide +kernel
theorem dX9_digest_106 : decode cX9_digest 106 = .ok (.istore_n 3, 1) := by decide +kernel
theorem dX9_digest_107 : decode cX9_digest 107 = .ok (.iload_n 3, 1) := by decide +kernel
theorem dX9_digest_108 : decode cX9_digest 108 = .ok (.iconst 3, 1) := by decide +kernel
theorem dX9_digest_109 : decode cX9_digest 109 = .ok (.if_icmp .ge 22, 3) := by decide +kernel
theorem dX9_digest_112 : decode cX9_digest 112 = .ok (.ldc2_w 301, 3) := by decide +kernel
theorem dX9_digest_115 : decode cX9_digest 115 = .ok (.lload_n 1, 1) := by decide +kernel
theorem dX9_digest_116 : decode cX9_digest 116 = .ok (.lmul, 1) := by decide +kernel
theorem dX9_digest_117 : decode cX9_digest 117 = .ok (.aload_n 0, 1) := by decide +kernel
theorem dX9_digest_118 : decode cX9_digest 118 = .ok (.iload_n 3, 1) := by decide +kernel
theorem dX9_digest_119 : decode cX9_digest 119 = .ok (.invokevirtual 320, 3) := by decide +kernel
theorem dX9_digest_122 : decode cX9_digest 122 = .ok (.i2l, 1) := by decide +kernel
theorem dX9_digest_123 : decode cX9_digest 123 = .ok (.ladd, 1) := by decide +kernel
theorem dX9_digest_124 : decode cX9_digest 124 = .ok (.lstore_n 1, 1) := by decide +kernel
theorem dX9_digest_125 : decode cX9_digest 125 = .ok (.iinc 3 1, 3) := by decide +kernel
theorem dX9_digest_128 : decode cX9_digest 128 = .ok (.goto (-21), 3) := by decide +kernel
theorem dX9_digest_131 : decode cX9_digest 131 = .ok (.ldc2_w 301, 3) := by decide +kernel
theorem dX9_digest_134 : decode cX9_digest 134 = .ok (.lload_n 1, 1) := by decide +kernel
theorem dX9_digest_135 : decode cX9_digest 135 = .ok (.lmul, 1) := by decide +kernel
theorem dX9_digest_136 : decode cX9_digest 136 = .ok (.aload_n 0, 1) := by decide +kernel
theorem dX9_digest_137 : decode cX9_digest 137 = .ok (.invokevirtual 323, 3) := by decide +kernel
theorem dX9_digest_140 : decode cX9_digest 140 = .ok (.i2l, 1) := by decide +kernel
theorem dX9_digest_141 : decode cX9_digest 141 = .ok (.ladd, 1) := by decide +kernel
theorem dX9_digest_142 : decode cX9_digest 142 = .ok (.lstore_n 1, 1) := by decide +kernel
theorem dX9_digest_143 : decode cX9_digest 143 = .ok (.ldc2_w 301, 3) := by decide +kernel
theorem dX9_digest_146 : decode cX9_digest 146 = .ok (.lload_n 1, 1) := by decide +kernel
theorem dX9_digest_147 : decode cX9_digest 147 = .ok (.lmul, 1) := by decide +kernel
theorem dX9_digest_148 : decode cX9_digest 148 = .ok (.aload_n 0, 1) := by decide +kernel
theorem dX9_digest_149 : decode cX9_digest 149 = .ok (.bipush 7, 2) := by decide +kernel
theorem dX9_digest_151 : decode cX9_digest 151 = .ok (.bipush 20, 2) := by decide +kernel
theorem dX9_digest_153 : decode cX9_digest 153 = .ok (.iconst 0, 1) := by decide +kernel
theorem dX9_digest_154 : decode cX9_digest 154 = .ok (.invokevirtual 326, 3) := by decide +kernel
theorem dX9_digest_157 : decode cX9_digest 157 = .ok (.i2l, 1) := by decide +kernel
theorem dX9_digest_158 : decode cX9_digest 158 = .ok (.ladd, 1) := by decide +kernel
theorem dX9_digest_159 : decode cX9_digest 159 = .ok (.lstore_n 1, 1) := by decide +kernel
theorem dX9_digest_160 : decode cX9_digest 160 = .ok (.ldc2_w 301, 3) := by decide +kernel
theorem dX9_digest_163 : decode cX9_digest 163 = .ok (.lload_n 1, 1) := by decide +kernel
theorem dX9_digest_164 : decode cX9_digest 164 = .ok (.lmul, 1) := by decide +kernel
theorem dX9_digest_165 : decode cX9_digest 165 = .ok (.aload_n 0, 1) := by decide +kernel
theorem dX9_digest_166 : decode cX9_digest 166 = .ok (.bipush 7, 2) := by decide +kernel
theorem dX9_digest_168 : decode cX9_digest 168 = .ok (.bipush 20, 2) := by decide +kernel
theorem dX9_digest_170 : decode cX9_digest 170 = .ok (.iconst 1, 1) := by decide +kernel
theorem dX9_digest_171 : decode cX9_digest 171 = .ok (.invokevirtual 326, 3) := by decide +kernel
theorem dX9_digest_174 : decode cX9_digest 174 = .ok (.i2l, 1) := by decide +kernel
theorem dX9_digest_175 : decode cX9_digest 175 = .ok (.ladd, 1) := by decide +kernel
theorem dX9_digest_176 : decode cX9_digest 176 = .ok (.lreturn, 1) := by decide +kernel
theorem dX9_withTexts_0 : decode cX9_withTexts 0 = .ok (.ldc2_w 301, 3) := by decide +kernel
theorem dX9_withTexts_3 : decode cX9_withTexts 3 = .ok (.lload_n 1, 1) := by decide +kernel
theorem dX9_withTexts_4 : decode cX9_withTexts 4 = .ok (.lmul, 1) := by decide +kernel
theorem dX9_withTexts_5 : decode cX9_withTexts 5 = .ok (.aload_n 0, 1) := by decide +kernel
theorem dX9_withTexts_6 : decode cX9_withTexts 6 = .ok (.iconst 0, 1) := by decide +kernel
theorem dX9_withTexts_7 : decode cX9_withTexts 7 = .ok (.invokevirtual 329, 3) := by decide +kernel
theorem dX9_withTexts_10 : decode cX9_withTexts 10 = .ok (.i2l, 1) := by decide +kernel
theorem dX9_withTexts_11 : decode cX9_withTexts 11 = .ok (.ladd, 1) := by decide +kernel
theorem dX9_withTexts_12 : decode cX9_withTexts 12 = .ok (.lstore_n 3, 1) := by decide +kernel
theorem dX9_withTexts_13 : decode cX9_withTexts 13 = .ok (.ldc2_w 301, 3) := by decide +kernel
theorem dX9_withTexts_16 : decode cX9_withTexts 16 = .ok (.lload_n 3, 1) := by decide +kernel
theorem dX9_withTexts_17 : decode cX9_withTexts 17 = .ok (.lmul, 1) := by decide +kernel
theorem dX9_withTexts_18 : decode cX9_withTexts 18 = .ok (.aload_n 0, 1) := by decide +kernel
theorem dX9_withTexts_19 : decode cX9_withTexts 19 = .ok (.iconst 1, 1) := by decide +kernel
theorem dX9_withTexts_20 : decode cX9_withTexts 20 = .ok (.invokevirtual 329, 3) := by decide +kernel
theorem dX9_withTexts_23 : decode cX9_withTexts 23 = .ok (.i2l, 1) := by decide +kernel
theorem dX9_withTexts_24 : decode cX9_withTexts 24 = .ok (.ladd, 1) := by decide +kernel
theorem dX9_withTexts_25 : decode cX9_withTexts 25 = .ok (.lstore_n 3, 1) := by decide +kernel
theorem dX9_withTexts_26 : decode cX9_withTexts 26 = .ok (.iconst 0, 1) := by decide +kernel
theorem dX9_withTexts_27 : decode cX9_withTexts 27 = .ok (.istore 5, 2) := by decide +kernel
theorem dX9_withTexts_29 : decode cX9_withTexts 29 = .ok (.iload 5, 2) := by decide +kernel
theorem dX9_withTexts_31 : decode cX9_withTexts 31 = .ok (.aload_n 0, 1) := by decide +kernel
theorem dX9_withTexts_32 : decode cX9_withTexts 32 = .ok (.getfield 37, 3) := by decide +kernel
theorem dX9_withTexts_35 : decode cX9_withTexts 35 = .ok (.getfield 132, 3) := by decide +kernel
theorem dX9_withTexts_38 : decode cX9_withTexts 38 = .ok (.if_icmp .ge 40, 3) := by decide +kernel
theorem dX9_withTexts_41 : decode cX9_withTexts 41 = .ok (.iconst 0, 1) := by decide +kernel
theorem dX9_withTexts_42 : decode cX9_withTexts 42 = .ok (.istore 6, 2) := by decide +kernel
theorem dX9_withTexts_44 : decode cX9_withTexts 44 = .ok (.iload 6, 2) := by decide +kernel
theorem dX9_withTexts_46 : decode cX9_withTexts 46 = .ok (.iconst 5, 1) := by decide +kernel
theorem dX9_withTexts_47 : decode cX9_withTexts 47 = .ok (.if_icmp .ge 25, 3) := by decide +kernel
theorem dX9_withTexts_50 : decode cX9_withTexts 50 = .ok (.ldc2_w 301, 3) := by decide +kernel
theorem dX9_withTexts_53 : decode cX9_withTexts 53 = .ok (.lload_n 3, 1) := by decide +kernel
theorem dX9_withTexts_54 : decode cX9_withTexts 54 = .ok (.lmul, 1) := by decide +kernel
theorem dX9_withTexts_55 : decode cX9_withTexts 55 = .ok (.aload_n 0, 1) := by decide +kernel
theorem dX9_withTexts_56 : decode cX9_withTexts 56 = .ok (.iload 5, 2) := by decide +kernel
theorem dX9_withTexts_58 : decode cX9_withTexts 58 = .ok (.iload 6, 2) := by decide +kernel
theorem dX9_withTexts_60 : decode cX9_withTexts 60 = .ok (.invokevirtual 332, 3) := by decide +kernel
theorem dX9_withTexts_63 : decode cX9_withTexts 63 = .ok (.i2l, 1) := by decide +kernel
theorem dX9_withTexts_64 : decode cX9_withTexts 64 = .ok (.ladd, 1) := by decide +kernel
theorem dX9_withTexts_65 : decode cX9_withTexts 65 = .ok (.lstore_n 3, 1) := by decide +kernel
theorem dX9_withTexts_66 : decode cX9_withTexts 66 = .ok (.iinc 6 1, 3) := by decide +kernel
theorem dX9_withTexts_69 : decode cX9_withTexts 69 = .ok (.goto (-25), 3) := by decide +kernel
theorem dX9_withTexts_72 : decode cX9_withTexts 72 = .ok (.iinc 5 1, 3) := by decide +kernel
theorem dX9_withTexts_75 : decode cX9_withTexts 75 = .ok (.goto (-46), 3) := by decide +kernel
theorem dX9_withTexts_78 : decode cX9_withTexts 78 = .ok (.iconst 0, 1) := by decide +kernel
theorem dX9_withTexts_79 : decode cX9_withTexts 79 = .ok (.istore 5, 2) := by decide +kernel
theorem dX9_withTexts_81 : decode cX9_withTexts 81 = .ok (.iload 5, 2) := by decide +kernel
theorem dX9_withTexts_83 : decode cX9_withTexts 83 = .ok (.aload_n 0, 1) := by decide +kernel
theorem dX9_withTexts_84 : decode cX9_withTexts 84 = .ok (.getfield 31, 3) := by decide +kernel
theorem dX9_withTexts_87 : decode cX9_withTexts 87 = .ok (.getfield 139, 3) := by decide +kernel
theorem dX9_withTexts_90 : decode cX9_withTexts 90 = .ok (.if_icmp .ge 40, 3) := by decide +kernel
theorem dX9_withTexts_93 : decode cX9_withTexts 93 = .ok (.iconst 0, 1) := by decide +kernel
theorem dX9_withTexts_94 : decode cX9_withTexts 94 = .ok (.istore 6, 2) := by decide +kernel
theorem dX9_withTexts_96 : decode cX9_withTexts 96 = .ok (.iload 6, 2) := by decide +kernel
theorem dX9_withTexts_98 : decode cX9_withTexts 98 = .ok (.iconst 3, 1) := by decide +kernel
theorem dX9_withTexts_99 : decode cX9_withTexts 99 = .ok (.if_icmp .ge 25, 3) := by decide +kernel
theorem dX9_withTexts_102 : decode cX9_withTexts 102 = .ok (.ldc2_w 301, 3) := by decide +kernel
theorem dX9_withTexts_105 : decode cX9_withTexts 105 = .ok (.lload_n 3, 1) := by decide +kernel
theorem dX9_withTexts_106 : decode cX9_withTexts 106 = .ok (.lmul, 1) := by decide +kernel
theorem dX9_withTexts_107 : decode cX9_withTexts 107 = .ok (.aload_n 0, 1) := by decide +kernel
theorem dX9_withTexts_108 : decode cX9_withTexts 108 = .ok (.iload 5, 2) := by decide +kernel
theorem dX9_withTexts_110 : decode cX9_withTexts 110 = .ok (.iload 6, 2) := by decide +kernel
theorem dX9_withTexts_112 : decode cX9_withTexts 112 = .ok (.invokevirtual 335, 3) := by decide +kernel
theorem dX9_withTexts_115 : decode cX9_withTexts 115 = .ok (.i2l, 1) := by decide +kernel
theorem dX9_withTexts_116 : decode cX9_withTexts 116 = .ok (.ladd, 1) := by decide +kernel
theorem dX9_withTexts_117 : decode cX9_withTexts 117 = .ok (.lstore_n 3, 1) := by decide +kernel
theorem dX9_withTexts_118 : decode cX9_withTexts 118 = .ok (.iinc 6 1, 3) := by decide +kernel
theorem dX9_withTexts_121 : decode cX9_withTexts 121 = .ok (.goto (-25), 3) := by decide +kernel
theorem dX9_withTexts_124 : decode cX9_withTexts 124 = .ok (.iinc 5 1, 3) := by decide +kernel
theorem dX9_withTexts_127 : decode cX9_withTexts 127 = .ok (.goto (-46), 3) := by decide +kernel
theorem dX9_withTexts_130 : decode cX9_withTexts 130 = .ok (.lload_n 3, 1) := by decide +kernel
theorem dX9_withTexts_131 : decode cX9_withTexts 131 = .ok (.lreturn, 1) := by decide +kernel
theorem dX9_withYear_0 : decode cX9_withYear 0 = .ok (.lload_n 1, 1) := by decide +kernel
theorem dX9_withYear_1 : decode cX9_withYear 1 = .ok (.lstore 4, 2) := by decide +kernel
theorem dX9_withYear_3 : decode cX9_withYear 3 = .ok (.iconst 0, 1) := by decide +kernel
theorem dX9_withYear_4 : decode cX9_withYear 4 = .ok (.istore 6, 2) := by decide +kernel
theorem dX9_withYear_6 : decode cX9_withYear 6 = .ok (.iload 6, 2) := by decide +kernel
theorem dX9_withYear_8 : decode cX9_withYear 8 = .ok (.iconst 3, 1) := by decide +kernel
theorem dX9_withYear_9 : decode cX9_withYear 9 = .ok (.if_icmp .ge 26, 3) := by decide +kernel
theorem dX9_withYear_12 : decode cX9_withYear 12 = .ok (.ldc2_w 301, 3) := by decide +kernel
theorem dX9_withYear_15 : decode cX9_withYear 15 = .ok (.lload 4, 2) := by decide +kernel
theorem dX9_withYear_17 : decode cX9_withYear 17 = .ok (.lmul, 1) := by decide +kernel
theorem dX9_withYear_18 : decode cX9_withYear 18 = .ok (.aload_n 0, 1) := by decide +kernel
theorem dX9_withYear_19 : decode cX9_withYear 19 = .ok (.iload_n 3, 1) := by decide +kernel
theorem dX9_withYear_20 : decode cX9_withYear 20 = .ok (.iload 6, 2) := by decide +kernel
theorem dX9_withYear_22 : decode cX9_withYear 22 = .ok (.invokevirtual 338, 3) := by decide +kernel
theorem dX9_withYear_25 : decode cX9_withYear 25 = .ok (.i2l, 1) := by decide +kernel
theorem dX9_withYear_26 : decode cX9_withYear 26 = .ok (.ladd, 1) := by decide +kernel
theorem dX9_withYear_27 : decode cX9_withYear 27 = .ok (.lstore 4, 2) := by decide +kernel
theorem dX9_withYear_29 : decode cX9_withYear 29 = .ok (.iinc 6 1, 3) := by decide +kernel
theorem dX9_withYear_32 : decode cX9_withYear 32 = .ok (.goto (-26), 3) := by decide +kernel
theorem dX9_withYear_35 : decode cX9_withYear 35 = .ok (.ldc2_w 301, 3) := by decide +kernel
theorem dX9_withYear_38 : decode cX9_withYear 38 = .ok (.lload 4, 2) := by decide +kernel
theorem dX9_withYear_40 : decode cX9_withYear 40 = .ok (.lmul, 1) := by decide +kernel
theorem dX9_withYear_41 : decode cX9_withYear 41 = .ok (.aload_n 0, 1) := by decide +kernel
theorem dX9_withYear_42 : decode cX9_withYear 42 = .ok (.iload_n 3, 1) := by decide +kernel
theorem dX9_withYear_43 : decode cX9_withYear 43 = .ok (.iconst 0, 1) := by decide +kernel
theorem dX9_withYear_44 : decode cX9_withYear 44 = .ok (.invokevirtual 341, 3) := by decide +kernel
theorem dX9_withYear_47 : decode cX9_withYear 47 = .ok (.i2l, 1) := by decide +kernel
theorem dX9_withYear_48 : decode cX9_withYear 48 = .ok (.ladd, 1) := by decide +kernel
theorem dX9_withYear_49 : decode cX9_withYear 49 = .ok (.lstore 4, 2) := by decide +kernel
theorem dX9_withYear_51 : decode cX9_withYear 51 = .ok (.ldc2_w 301, 3) := by decide +kernel
theorem dX9_withYear_54 : decode cX9_withYear 54 = .ok (.lload 4, 2) := by decide +kernel
theorem dX9_withYear_56 : decode cX9_withYear 56 = .ok (.lmul, 1) := by decide +kernel
theorem dX9_withYear_57 : decode cX9_withYear 57 = .ok (.aload_n 0, 1) := by decide +kernel
theorem dX9_withYear_58 : decode cX9_withYear 58 = .ok (.iload_n 3, 1) := by decide +kernel
theorem dX9_withYear_59 : decode cX9_withYear 59 = .ok (.iconst 1, 1) := by decide +kernel
theorem dX9_withYear_60 : decode cX9_withYear 60 = .ok (.invokevirtual 341, 3) := by decide +kernel
theorem dX9_withYear_63 : decode cX9_withYear 63 = .ok (.i2l, 1) := by decide +kernel
theorem dX9_withYear_64 : decode cX9_withYear 64 = .ok (.ladd, 1) := by decide +kernel
theorem dX9_withYear_65 : decode cX9_withYear 65 = .ok (.lstore 4, 2) := by decide +kernel
theorem dX9_withYear_67 : decode cX9_withYear 67 = .ok (.ldc2_w 301, 3) := by decide +kernel
theorem dX9_withYear_70 : decode cX9_withYear 70 = .ok (.lload 4, 2) := by decide +kernel
theorem dX9_withYear_72 : decode cX9_withYear 72 = .ok (.lmul, 1) := by decide +kernel
theorem dX9_withYear_73 : decode cX9_withYear 73 = .ok (.aload_n 0, 1) := by decide +kernel
theorem dX9_withYear_74 : decode cX9_withYear 74 = .ok (.iload_n 3, 1) := by decide +kernel
theorem dX9_withYear_75 : decode cX9_withYear 75 = .ok (.iconst 0, 1) := by decide +kernel
theorem dX9_withYear_76 : decode cX9_withYear 76 = .ok (.invokevirtual 344, 3) := by decide +kernel
theorem dX9_withYear_79 : decode cX9_withYear 79 = .ok (.i2l, 1) := by decide +kernel
theorem dX9_withYear_80 : decode cX9_withYear 80 = .ok (.ladd, 1) := by decide +kernel
theorem dX9_withYear_81 : decode cX9_withYear 81 = .ok (.lstore 4, 2) := by decide +kernel
theorem dX9_withYear_83 : decode cX9_withYear 83 = .ok (.ldc2_w 301, 3) := by decide +kernel
theorem dX9_withYear_86 : decode cX9_withYear 86 = .ok (.lload 4, 2) := by decide +kernel
theorem dX9_withYear_88 : decode cX9_withYear 88 = .ok (.lmul, 1) := by decide +kernel
theorem dX9_withYear_89 : decode cX9_withYear 89 = .ok (.aload_n 0, 1) := by decide +kernel
theorem dX9_withYear_90 : decode cX9_withYear 90 = .ok (.iload_n 3, 1) := by decide +kernel
theorem dX9_withYear_91 : decode cX9_withYear 91 = .ok (.iconst 1, 1) := by decide +kernel
theorem dX9_withYear_92 : decode cX9_withYear 92 = .ok (.invokevirtual 344, 3) := by decide +kernel
theorem dX9_withYear_95 : decode cX9_withYear 95 = .ok (.i2l, 1) := by decide +kernel
theorem dX9_withYear_96 : decode cX9_withYear 96 = .ok (.ladd, 1) := by decide +kernel
theorem dX9_withYear_97 : decode cX9_withYear 97 = .ok (.lstore 4, 2) := by decide +kernel
theorem dX9_withYear_99 : decode cX9_withYear 99 = .ok (.ldc2_w 301, 3) := by decide +kernel
theorem dX9_withYear_102 : decode cX9_withYear 102 = .ok (.lload 4, 2) := by decide +kernel
theorem dX9_withYear_104 : decode cX9_withYear 104 = .ok (.lmul, 1) := by decide +kernel
theorem dX9_withYear_105 : decode cX9_withYear 105 = .ok (.aload_n 0, 1) := by decide +kernel
theorem dX9_withYear_106 : decode cX9_withYear 106 = .ok (.iload_n 3, 1) := by decide +kernel
theorem dX9_withYear_107 : decode cX9_withYear 107 = .ok (.iconst 0, 1) := by decide +kernel
theorem dX9_withYear_108 : decode cX9_withYear 108 = .ok (.invokevirtual 347, 3) := by decide +kernel
theorem dX9_withYear_111 : decode cX9_withYear 111 = .ok (.i2l, 1) := by decide +kernel
theorem dX9_withYear_112 : decode cX9_withYear 112 = .ok (.ladd, 1) := by decide +kernel
theorem dX9_withYear_113 : decode cX9_withYear 113 = .ok (.lstore 4, 2) := by decide +kernel
theorem dX9_withYear_115 : decode cX9_withYear 115 = .ok (.ldc2_w 301, 3) := by decide +kernel
theorem dX9_withYear_118 : decode cX9_withYear 118 = .ok (.lload 4, 2) := by decide +kernel
theorem dX9_withYear_120 : decode cX9_withYear 120 = .ok (.lmul, 1) := by decide +kernel
theorem dX9_withYear_121 : decode cX9_withYear 121 = .ok (.aload_n 0, 1) := by decide +kernel
theorem dX9_withYear_122 : decode cX9_withYear 122 = .ok (.iload_n 3, 1) := by decide +kernel
theorem dX9_withYear_123 : decode cX9_withYear 123 = .ok (.iconst 1, 1) := by decide +kernel
theorem dX9_withYear_124 : decode cX9_withYear 124 = .ok (.invokevirtual 347, 3) := by decide +kernel
theorem dX9_withYear_127 : decode cX9_withYear 127 = .ok (.i2l, 1) := by decide +kernel
theorem dX9_withYear_128 : decode cX9_withYear 128 = .ok (.ladd, 1) := by decide +kernel
theorem dX9_withYear_129 : decode cX9_withYear 129 = .ok (.lstore 4, 2) := by decide +kernel
theorem dX9_withYear_131 : decode cX9_withYear 131 = .ok (.getstatic 350, 3) := by decide +kernel
theorem dX9_withYear_134 : decode cX9_withYear 134 = .ok (.astore 6, 2) := by decide +kernel
theorem dX9_withYear_136 : decode cX9_withYear 136 = .ok (.aload 6, 2) := by decide +kernel
theorem dX9_withYear_138 : decode cX9_withYear 138 = .ok (.arraylength, 1) := by decide +kernel
theorem dX9_withYear_139 : decode cX9_withYear 139 = .ok (.istore 7, 2) := by decide +kernel
theorem dX9_withYear_141 : decode cX9_withYear 141 = .ok (.iconst 0, 1) := by decide +kernel
theorem dX9_withYear_142 : decode cX9_withYear 142 = .ok (.istore 8, 2) := by decide +kernel
theorem dX9_withYear_144 : decode cX9_withYear 144 = .ok (.iload 8, 2) := by decide +kernel
theorem dX9_withYear_146 : decode cX9_withYear 146 = .ok (.iload 7, 2) := by decide +kernel
theorem dX9_withYear_148 : decode cX9_withYear 148 = .ok (.if_icmp .ge 109, 3) := by decide +kernel
theorem dX9_withYear_151 : decode cX9_withYear 151 = .ok (.aload 6, 2) := by decide +kernel
theorem dX9_withYear_153 : decode cX9_withYear 153 = .ok (.iload 8, 2) := by decide +kernel
theorem dX9_withYear_155 : decode cX9_withYear 155 = .ok (.iaload, 1) := by decide +kernel
theorem dX9_withYear_156 : decode cX9_withYear 156 = .ok (.istore 9, 2) := by decide +kernel
theorem dX9_withYear_158 : decode cX9_withYear 158 = .ok (.ldc2_w 301, 3) := by decide +kernel
theorem dX9_withYear_161 : decode cX9_withYear 161 = .ok (.lload 4, 2) := by decide +kernel
theorem dX9_withYear_163 : decode cX9_withYear 163 = .ok (.lmul, 1) := by decide +kernel
theorem dX9_withYear_164 : decode cX9_withYear 164 = .ok (.aload_n 0, 1) := by decide +kernel
theorem dX9_withYear_165 : decode cX9_withYear 165 = .ok (.iload_n 3, 1) := by decide +kernel
theorem dX9_withYear_166 : decode cX9_withYear 166 = .ok (.iload 9, 2) := by decide +kernel
theorem dX9_withYear_168 : decode cX9_withYear 168 = .ok (.invokevirtual 353, 3) := by decide +kernel
theorem dX9_withYear_171 : decode cX9_withYear 171 = .ok (.i2l, 1) := by decide +kernel
theorem dX9_withYear_172 : decode cX9_withYear 172 = .ok (.ladd, 1) := by decide +kernel
theorem dX9_withYear_173 : decode cX9_withYear 173 = .ok (.lstore 4, 2) := by decide +kernel
theorem dX9_withYear_175 : decode cX9_withYear 175 = .ok (.ldc2_w 301, 3) := by decide +kernel
theorem dX9_withYear_178 : decode cX9_withYear 178 = .ok (.lload 4, 2) := by decide +kernel
theorem dX9_withYear_180 : decode cX9_withYear 180 = .ok (.lmul, 1) := by decide +kernel
theorem dX9_withYear_181 : decode cX9_withYear 181 = .ok (.aload_n 0, 1) := by decide +kernel
theorem dX9_withYear_182 : decode cX9_withYear 182 = .ok (.iload_n 3, 1) := by decide +kernel
theorem dX9_withYear_183 : decode cX9_withYear 183 = .ok (.iload 9, 2) := by decide +kernel
theorem dX9_withYear_185 : decode cX9_withYear 185 = .ok (.iconst 1, 1) := by decide +kernel
theorem dX9_withYear_186 : decode cX9_withYear 186 = .ok (.iconst 0, 1) := by decide +kernel
theorem dX9_withYear_187 : decode cX9_withYear 187 = .ok (.invokevirtual 356, 3) := by decide +kernel
theorem dX9_withYear_190 : decode cX9_withYear 190 = .ok (.i2l, 1) := by decide +kernel
theorem dX9_withYear_191 : decode cX9_withYear 191 = .ok (.ladd, 1) := by decide +kernel
theorem dX9_withYear_192 : decode cX9_withYear 192 = .ok (.lstore 4, 2) := by decide +kernel
theorem dX9_withYear_194 : decode cX9_withYear 194 = .ok (.ldc2_w 301, 3) := by decide +kernel
theorem dX9_withYear_197 : decode cX9_withYear 197 = .ok (.lload 4, 2) := by decide +kernel
theorem dX9_withYear_199 : decode cX9_withYear 199 = .ok (.lmul, 1) := by decide +kernel
theorem dX9_withYear_200 : decode cX9_withYear 200 = .ok (.aload_n 0, 1) := by decide +kernel
theorem dX9_withYear_201 : decode cX9_withYear 201 = .ok (.iload_n 3, 1) := by decide +kernel
theorem dX9_withYear_202 : decode cX9_withYear 202 = .ok (.iload 9, 2) := by decide +kernel
theorem dX9_withYear_204 : decode cX9_withYear 204 = .ok (.iconst 1, 1) := by decide +kernel
theorem dX9_withYear_205 : decode cX9_withYear 205 = .ok (.iconst 1, 1) := by decide +kernel
theorem dX9_withYear_206 : decode cX9_withYear 206 = .ok (.invokevirtual 356, 3) := by decide +kernel
theorem dX9_withYear_209 : decode cX9_withYear 209 = .ok (.i2l, 1) := by decide +kernel
theorem dX9_withYear_210 : decode cX9_withYear 210 = .ok (.ladd, 1) := by decide +kernel
theorem dX9_withYear_211 : decode cX9_withYear 211 = .ok (.lstore 4, 2) := by decide +kernel
theorem dX9_withYear_213 : decode cX9_withYear 213 = .ok (.ldc2_w 301, 3) := by decide +kernel
theorem dX9_withYear_216 : decode cX9_withYear 216 = .ok (.lload 4, 2) := by decide +kernel
theorem dX9_withYear_218 : decode cX9_withYear 218 = .ok (.lmul, 1) := by decide +kernel
theorem dX9_withYear_219 : decode cX9_withYear 219 = .ok (.aload_n 0, 1) := by decide +kernel
theorem dX9_withYear_220 : decode cX9_withYear 220 = .ok (.iconst 5, 1) := by decide +kernel
theorem dX9_withYear_221 : decode cX9_withYear 221 = .ok (.iload_n 3, 1) := by decide +kernel
theorem dX9_withYear_222 : decode cX9_withYear 222 = .ok (.iload 9, 2) := by decide +kernel
theorem dX9_withYear_224 : decode cX9_withYear 224 = .ok (.iconst 1, 1) := by decide +kernel
theorem dX9_withYear_225 : decode cX9_withYear 225 = .ok (.iconst 0, 1) := by decide +kernel
theorem dX9_withYear_226 : decode cX9_withYear 226 = .ok (.invokevirtual 360, 3) := by decide +kernel
theorem dX9_withYear_229 : decode cX9_withYear 229 = .ok (.ladd, 1) := by decide +kernel
theorem dX9_withYear_230 : decode cX9_withYear 230 = .ok (.lstore 4, 2) := by decide +kernel
theorem dX9_withYear_232 : decode cX9_withYear 232 = .ok (.ldc2_w 301, 3) := by decide +kernel
theorem dX9_withYear_235 : decode cX9_withYear 235 = .ok (.lload 4, 2) := by decide +kernel
theorem dX9_withYear_237 : decode cX9_withYear 237 = .ok (.lmul, 1) := by decide +kernel
theorem dX9_withYear_238 : decode cX9_withYear 238 = .ok (.aload_n 0, 1) := by decide +kernel
theorem dX9_withYear_239 : decode cX9_withYear 239 = .ok (.iconst 5, 1) := by decide +kernel
theorem dX9_withYear_240 : decode cX9_withYear 240 = .ok (.iload_n 3, 1) := by decide +kernel
theorem dX9_withYear_241 : decode cX9_withYear 241 = .ok (.iload 9, 2) := by decide +kernel
theorem dX9_withYear_243 : decode cX9_withYear 243 = .ok (.iconst 1, 1) := by decide +kernel
theorem dX9_withYear_244 : decode cX9_withYear 244 = .ok (.iconst 1, 1) := by decide +kernel
theorem dX9_withYear_245 : decode cX9_withYear 245 = .ok (.invokevirtual 360, 3) := by decide +kernel
theorem dX9_withYear_248 : decode cX9_withYear 248 = .ok (.ladd, 1) := by decide +kernel
theorem dX9_withYear_249 : decode cX9_withYear 249 = .ok (.lstore 4, 2) := by decide +kernel
theorem dX9_withYear_251 : decode cX9_withYear 251 = .ok (.iinc 8 1, 3) := by decide +kernel
theorem dX9_withYear_254 : decode cX9_withYear 254 = .ok (.goto (-110), 3) := by decide +kernel
theorem dX9_withYear_257 : decode cX9_withYear 257 = .ok (.lload 4, 2) := by decide +kernel
theorem dX9_withYear_259 : decode cX9_withYear 259 = .ok (.lreturn, 1) := by decide +kernel
theorem dX9_within_0 : decode cX9_within 0 = .ok (.iload_n 0, 1) := by decide +kernel
theorem dX9_within_1 : decode cX9_within 1 = .ok (.ifCond .lt 12, 3) := by decide +kernel
theorem dX9_within_4 : decode cX9_within 4 = .ok (.iload_n 0, 1) := by decide +kernel
theorem dX9_within_5 : decode cX9_within 5 = .ok (.iload_n 1, 1) := by decide +kernel
theorem dX9_within_6 : decode cX9_within 6 = .ok (.if_icmp .ge 7, 3) := by decide +kernel
theorem dX9_within_9 : decode cX9_within 9 = .ok (.iconst 1, 1) := by decide +kernel
theorem dX9_within_10 : decode cX9_within 10 = .ok (.goto 4, 3) := by decide +kernel
theorem dX9_within_13 : decode cX9_within 13 = .ok (.iconst 0, 1) := by decide +kernel
theorem dX9_within_14 : decode cX9_within 14 = .ok (.ireturn, 1) := by decide +kernel
theorem dX9_isDeedOrNone_0 : decode cX9_isDeedOrNone 0 = .ok (.iload_n 0, 1) := by decide +kernel
theorem dX9_isDeedOrNone_1 : decode cX9_isDeedOrNone 1 = .ok (.iconst (-1), 1) := by decide +kernel
theorem dX9_isDeedOrNone_2 : decode cX9_isDeedOrNone 2 = .ok (.if_icmp .eq 12, 3) := by decide +kernel
theorem dX9_isDeedOrNone_5 : decode cX9_isDeedOrNone 5 = .ok (.iload_n 0, 1) := by decide +kernel
theorem dX9_isDeedOrNone_6 : decode cX9_isDeedOrNone 6 = .ok (.bipush 6, 2) := by decide +kernel
theorem dX9_isDeedOrNone_8 : decode cX9_isDeedOrNone 8 = .ok (.invokestatic 104, 3) := by decide +kernel
theorem dX9_isDeedOrNone_11 : decode cX9_isDeedOrNone 11 = .ok (.ifCond .eq 7, 3) := by decide +kernel
theorem dX9_isDeedOrNone_14 : decode cX9_isDeedOrNone 14 = .ok (.iconst 1, 1) := by decide +kernel
theorem dX9_isDeedOrNone_15 : decode cX9_isDeedOrNone 15 = .ok (.goto 4, 3) := by decide +kernel
theorem dX9_isDeedOrNone_18 : decode cX9_isDeedOrNone 18 = .ok (.iconst 0, 1) := by decide +kernel
theorem dX9_isDeedOrNone_19 : decode cX9_isDeedOrNone 19 = .ok (.ireturn, 1) := by decide +kernel
theorem dX9_scriptOf_0 : decode cX9_scriptOf 0 = .ok (.iload_n 1, 1) := by decide +kernel
theorem dX9_scriptOf_1 : decode cX9_scriptOf 1 = .ok (.ifCond .ne 10, 3) := by decide +kernel
theorem dX9_scriptOf_4 : decode cX9_scriptOf 4 = .ok (.aload_n 0, 1) := by decide +kernel
theorem dX9_scriptOf_5 : decode cX9_scriptOf 5 = .ok (.getfield 21, 3) := by decide +kernel
theorem dX9_scriptOf_8 : decode cX9_scriptOf 8 = .ok (.goto 7, 3) := by decide +kernel
theorem dX9_scriptOf_11 : decode cX9_scriptOf 11 = .ok (.aload_n 0, 1) := by decide +kernel
theorem dX9_scriptOf_12 : decode cX9_scriptOf 12 = .ok (.getfield 31, 3) := by decide +kernel
theorem dX9_scriptOf_15 : decode cX9_scriptOf 15 = .ok (.areturn, 1) := by decide +kernel
theorem dX9_refresh_0 : decode cX9_refresh 0 = .ok (.aload_n 0, 1) := by decide +kernel
theorem dX9_refresh_1 : decode cX9_refresh 1 = .ok (.getfield 95, 3) := by decide +kernel
theorem dX9_refresh_4 : decode cX9_refresh 4 = .ok (.ifCond .eq 45, 3) := by decide +kernel
theorem dX9_refresh_7 : decode cX9_refresh 7 = .ok (.aload_n 0, 1) := by decide +kernel
theorem dX9_refresh_8 : decode cX9_refresh 8 = .ok (.getfield 21, 3) := by decide +kernel
theorem dX9_refresh_11 : decode cX9_refresh 11 = .ok (.invokevirtual 364, 3) := by decide +kernel
theorem dX9_refresh_14 : decode cX9_refresh 14 = .ok (.aload_n 0, 1) := by decide +kernel
theorem dX9_refresh_15 : decode cX9_refresh 15 = .ok (.getfield 31, 3) := by decide +kernel
theorem dX9_refresh_18 : decode cX9_refresh 18 = .ok (.invokevirtual 364, 3) := by decide +kernel
theorem dX9_refresh_21 : decode cX9_refresh 21 = .ok (.aload_n 0, 1) := by decide +kernel
theorem dX9_refresh_22 : decode cX9_refresh 22 = .ok (.getfield 37, 3) := by decide +kernel
theorem dX9_refresh_25 : decode cX9_refresh 25 = .ok (.aload_n 0, 1) := by decide +kernel
theorem dX9_refresh_26 : decode cX9_refresh 26 = .ok (.getfield 21, 3) := by decide +kernel
theorem dX9_refresh_29 : decode cX9_refresh 29 = .ok (.aload_n 0, 1) := by decide +kernel
theorem dX9_refresh_30 : decode cX9_refresh 30 = .ok (.getfield 31, 3) := by decide +kernel
theorem dX9_refresh_33 : decode cX9_refresh 33 = .ok (.invokevirtual 367, 3) := by decide +kernel
theorem dX9_refresh_36 : decode cX9_refresh 36 = .ok (.aload_n 0, 1) := by decide +kernel
theorem dX9_refresh_37 : decode cX9_refresh 37 = .ok (.getfield 78, 3) := by decide +kernel
theorem dX9_refresh_40 : decode cX9_refresh 40 = .ok (.iconst 1, 1) := by decide +kernel
theorem dX9_refresh_41 : decode cX9_refresh 41 = .ok (.putfield 371, 3) := by decide +kernel
theorem dX9_refresh_44 : decode cX9_refresh 44 = .ok (.aload_n 0, 1) := by decide +kernel
theorem dX9_refresh_45 : decode cX9_refresh 45 = .ok (.iconst 0, 1) := by decide +kernel
theorem dX9_refresh_46 : decode cX9_refresh 46 = .ok (.putfield 95, 3) := by decide +kernel
theorem dX9_refresh_49 : decode cX9_refresh 49 = .ok (.return_, 1) := by decide +kernel
theorem dX9_kingsLaws_0 : decode cX9_kingsLaws 0 = .ok (.aload_n 0, 1) := by decide +kernel
theorem dX9_kingsLaws_1 : decode cX9_kingsLaws 1 = .ok (.invokevirtual 126, 3) := by decide +kernel
theorem dX9_kingsLaws_4 : decode cX9_kingsLaws 4 = .ok (.aload_n 0, 1) := by decide +kernel
theorem dX9_kingsLaws_5 : decode cX9_kingsLaws 5 = .ok (.getfield 54, 3) := by decide +kernel
theorem dX9_kingsLaws_8 : decode cX9_kingsLaws 8 = .ok (.aload_n 0, 1) := by decide +kernel
theorem dX9_kingsLaws_9 : decode cX9_kingsLaws 9 = .ok (.getfield 37, 3) := by decide +kernel
theorem dX9_kingsLaws_12 : decode cX9_kingsLaws 12 = .ok (.iload_n 1, 1) := by decide +kernel
theorem dX9_kingsLaws_13 : decode cX9_kingsLaws 13 = .ok (.invokevirtual 154, 3) := by decide +kernel
theorem dX9_kingsLaws_16 : decode cX9_kingsLaws 16 = .ok (.ireturn, 1) := by decide +kernel
theorem dX9_tell_0 : decode cX9_tell 0 = .ok (.iload_n 2, 1) := by decide +kernel
theorem dX9_tell_1 : decode cX9_tell 1 = .ok (.bipush 30, 2) := by decide +kernel
theorem dX9_tell_3 : decode cX9_tell 3 = .ok (.invokestatic 104, 3) := by decide +kernel
theorem dX9_tell_6 : decode cX9_tell 6 = .ok (.ifCond .eq 12, 3) := by decide +kernel
theorem dX9_tell_9 : decode cX9_tell 9 = .ok (.iload_n 3, 1) := by decide +kernel
theorem dX9_tell_10 : decode cX9_tell 10 = .ok (.bipush 12, 2) := by decide +kernel
theorem dX9_tell_12 : decode cX9_tell 12 = .ok (.invokestatic 104, 3) := by decide +kernel
theorem dX9_tell_15 : decode cX9_tell 15 = .ok (.ifCond .ne 6, 3) := by decide +kernel
theorem dX9_tell_18 : decode cX9_tell 18 = .ok (.bipush (-2), 2) := by decide +kernel
theorem dX9_tell_20 : decode cX9_tell 20 = .ok (.ireturn, 1) := by decide +kernel
theorem dX9_tell_21 : decode cX9_tell 21 = .ok (.aload_n 1, 1) := by decide +kernel
theorem dX9_tell_22 : decode cX9_tell 22 = .ok (.invokevirtual 372, 3) := by decide +kernel
theorem dX9_tell_25 : decode cX9_tell 25 = .ok (.ifCond .eq 6, 3) := by decide +kernel
theorem dX9_tell_28 : decode cX9_tell 28 = .ok (.bipush (-4), 2) := by decide +kernel
theorem dX9_tell_30 : decode cX9_tell 30 = .ok (.ireturn, 1) := by decide +kernel
theorem dX9_tell_31 : decode cX9_tell 31 = .ok (.aload_n 1, 1) := by decide +kernel
theorem dX9_tell_32 : decode cX9_tell 32 = .ok (.iload_n 2, 1) := by decide +kernel
theorem dX9_tell_33 : decode cX9_tell 33 = .ok (.iload_n 3, 1) := by decide +kernel
theorem dX9_tell_34 : decode cX9_tell 34 = .ok (.invokevirtual 373, 3) := by decide +kernel
theorem dX9_tell_37 : decode cX9_tell 37 = .ok (.aload_n 0, 1) := by decide +kernel
theorem dX9_tell_38 : decode cX9_tell 38 = .ok (.getfield 54, 3) := by decide +kernel
theorem dX9_tell_41 : decode cX9_tell 41 = .ok (.aload_n 0, 1) := by decide +kernel
theorem dX9_tell_42 : decode cX9_tell 42 = .ok (.getfield 44, 3) := by decide +kernel
theorem dX9_tell_45 : decode cX9_tell 45 = .ok (.aload_n 0, 1) := by decide +kernel
theorem dX9_tell_46 : decode cX9_tell 46 = .ok (.getfield 48, 3) := by decide +kernel
theorem dX9_tell_49 : decode cX9_tell 49 = .ok (.invokevirtual 150, 3) := by decide +kernel
theorem dX9_tell_52 : decode cX9_tell 52 = .ok (.aload_n 1, 1) := by decide +kernel
theorem dX9_tell_53 : decode cX9_tell 53 = .ok (.getfield 149, 3) := by decide +kernel
theorem dX9_tell_56 : decode cX9_tell 56 = .ok (.ireturn, 1) := by decide +kernel
theorem dX9_find_0 : decode cX9_find 0 = .ok (.aload_n 0, 1) := by decide +kernel
theorem dX9_find_1 : decode cX9_find 1 = .ok (.iload_n 1, 1) := by decide +kernel
theorem dX9_find_2 : decode cX9_find 2 = .ok (.putfield 99, 3) := by decide +kernel
theorem dX9_find_5 : decode cX9_find 5 = .ok (.bipush (-10), 2) := by decide +kernel
theorem dX9_find_7 : decode cX9_find 7 = .ok (.iload_n 1, 1) := by decide +kernel
theorem dX9_find_8 : decode cX9_find 8 = .ok (.isub, 1) := by decide +kernel
theorem dX9_find_9 : decode cX9_find 9 = .ok (.ireturn, 1) := by decide +kernel
theorem dX9_refusalOfItem_0 : decode cX9_refusalOfItem 0 = .ok (.iload_n 1, 1) := by decide +kernel
theorem dX9_refusalOfItem_1 : decode cX9_refusalOfItem 1 = .ok (.iconst 4, 1) := by decide +kernel
theorem dX9_refusalOfItem_2 : decode cX9_refusalOfItem 2 = .ok (.invokestatic 104, 3) := by decide +kernel
theorem dX9_refusalOfItem_5 : decode cX9_refusalOfItem 5 = .ok (.ifCond .eq 11, 3) := by decide +kernel
theorem dX9_refusalOfItem_8 : decode cX9_refusalOfItem 8 = .ok (.iload_n 2, 1) := by decide +kernel
theorem dX9_refusalOfItem_9 : decode cX9_refusalOfItem 9 = .ok (.iconst 3, 1) := by decide +kernel
theorem dX9_refusalOfItem_10 : decode cX9_refusalOfItem 10 = .ok (.invokestatic 104, 3) := by decide +kernel
theorem dX9_refusalOfItem_13 : decode cX9_refusalOfItem 13 = .ok (.ifCond .ne 6, 3) := by decide +kernel
theorem dX9_refusalOfItem_16 : decode cX9_refusalOfItem 16 = .ok (.bipush (-2), 2) := by decide +kernel
theorem dX9_refusalOfItem_18 : decode cX9_refusalOfItem 18 = .ok (.ireturn, 1) := by decide +kernel
theorem dX9_refusalOfItem_19 : decode cX9_refusalOfItem 19 = .ok (.aload_n 0, 1) := by decide +kernel
theorem dX9_refusalOfItem_20 : decode cX9_refusalOfItem 20 = .ok (.getfield 91, 3) := by decide +kernel
theorem dX9_refusalOfItem_23 : decode cX9_refusalOfItem 23 = .ok (.iload_n 1, 1) := by decide +kernel
theorem dX9_refusalOfItem_24 : decode cX9_refusalOfItem 24 = .ok (.aaload, 1) := by decide +kernel
theorem dX9_refusalOfItem_25 : decode cX9_refusalOfItem 25 = .ok (.astore 4, 2) := by decide +kernel
theorem dX9_refusalOfItem_27 : decode cX9_refusalOfItem 27 = .ok (.aload 4, 2) := by decide +kernel
theorem dX9_refusalOfItem_29 : decode cX9_refusalOfItem 29 = .ok (.invokevirtual 225, 3) := by decide +kernel
theorem dX9_refusalOfItem_32 : decode cX9_refusalOfItem 32 = .ok (.ifCond .eq 9, 3) := by decide +kernel
theorem dX9_refusalOfItem_35 : decode cX9_refusalOfItem 35 = .ok (.aload_n 0, 1) := by decide +kernel
theorem dX9_refusalOfItem_36 : decode cX9_refusalOfItem 36 = .ok (.iconst 1, 1) := by decide +kernel
theorem dX9_refusalOfItem_37 : decode cX9_refusalOfItem 37 = .ok (.invokevirtual 228, 3) := by decide +kernel
theorem dX9_refusalOfItem_40 : decode cX9_refusalOfItem 40 = .ok (.ireturn, 1) := by decide +kernel
theorem dX9_refusalOfItem_41 : decode cX9_refusalOfItem 41 = .ok (.aload 4, 2) := by decide +kernel
theorem dX9_refusalOfItem_43 : decode cX9_refusalOfItem 43 = .ok (.getfield 282, 3) := by decide +kernel
theorem dX9_refusalOfItem_46 : decode cX9_refusalOfItem 46 = .ok (.iload_n 2, 1) := by decide +kernel
theorem dX9_refusalOfItem_47 : decode cX9_refusalOfItem 47 = .ok (.if_icmp .eq 9, 3) := by decide +kernel
theorem dX9_refusalOfItem_50 : decode cX9_refusalOfItem 50 = .ok (.aload_n 0, 1) := by decide +kernel
theorem dX9_refusalOfItem_51 : decode cX9_refusalOfItem 51 = .ok (.iconst 3, 1) := by decide +kernel
theorem dX9_refusalOfItem_52 : decode cX9_refusalOfItem 52 = .ok (.invokevirtual 228, 3) := by decide +kernel
theorem dX9_refusalOfItem_55 : decode cX9_refusalOfItem 55 = .ok (.ireturn, 1) := by decide +kernel
theorem dX9_refusalOfItem_56 : decode cX9_refusalOfItem 56 = .ok (.iload_n 3, 1) := by decide +kernel
theorem dX9_refusalOfItem_57 : decode cX9_refusalOfItem 57 = .ok (.aload 4, 2) := by decide +kernel
theorem dX9_refusalOfItem_59 : decode cX9_refusalOfItem 59 = .ok (.getfield 231, 3) := by decide +kernel
theorem dX9_refusalOfItem_62 : decode cX9_refusalOfItem 62 = .ok (.invokestatic 104, 3) := by decide +kernel
theorem dX9_refusalOfItem_65 : decode cX9_refusalOfItem 65 = .ok (.ifCond .eq 7, 3) := by decide +kernel
theorem dX9_refusalOfItem_68 : decode cX9_refusalOfItem 68 = .ok (.iconst 0, 1) := by decide +kernel
theorem dX9_refusalOfItem_69 : decode cX9_refusalOfItem 69 = .ok (.goto 8, 3) := by decide +kernel
theorem dX9_refusalOfItem_72 : decode cX9_refusalOfItem 72 = .ok (.aload_n 0, 1) := by decide +kernel
theorem dX9_refusalOfItem_73 : decode cX9_refusalOfItem 73 = .ok (.iconst 2, 1) := by decide +kernel
theorem dX9_refusalOfItem_74 : decode cX9_refusalOfItem 74 = .ok (.invokevirtual 228, 3) := by decide +kernel
theorem dX9_refusalOfItem_77 : decode cX9_refusalOfItem 77 = .ok (.ireturn, 1) := by decide +kernel
theorem dJ6_bitCount_0f7a4_0 : decode cJ6_bitCount_0f7a4 0 = .ok (.iload_n 0, 1) := by decide +kernel
theorem dJ6_bitCount_0f7a4_1 : decode cJ6_bitCount_0f7a4 1 = .ok (.iload_n 0, 1) := by decide +kernel
theorem dJ6_bitCount_0f7a4_2 : decode cJ6_bitCount_0f7a4 2 = .ok (.iconst 1, 1) := by decide +kernel
theorem dJ6_bitCount_0f7a4_3 : decode cJ6_bitCount_0f7a4 3 = .ok (.iushr, 1) := by decide +kernel
theorem dJ6_bitCount_0f7a4_4 : decode cJ6_bitCount_0f7a4 4 = .ok (.ldc_w 265, 3) := by decide +kernel
theorem dJ6_bitCount_0f7a4_7 : decode cJ6_bitCount_0f7a4 7 = .ok (.iand, 1) := by decide +kernel
theorem dJ6_bitCount_0f7a4_8 : decode cJ6_bitCount_0f7a4 8 = .ok (.isub, 1) := by decide +kernel
theorem dJ6_bitCount_0f7a4_9 : decode cJ6_bitCount_0f7a4 9 = .ok (.istore_n 0, 1) := by decide +kernel
theorem dJ6_bitCount_0f7a4_10 : decode cJ6_bitCount_0f7a4 10 = .ok (.iload_n 0, 1) := by decide +kernel
theorem dJ6_bitCount_0f7a4_11 : decode cJ6_bitCount_0f7a4 11 = .ok (.ldc_w 266, 3) := by decide +kernel
theorem dJ6_bitCount_0f7a4_14 : decode cJ6_bitCount_0f7a4 14 = .ok (.iand, 1) := by decide +kernel
theorem dJ6_bitCount_0f7a4_15 : decode cJ6_bitCount_0f7a4 15 = .ok (.iload_n 0, 1) := by decide +kernel
theorem dJ6_bitCount_0f7a4_16 : decode cJ6_bitCount_0f7a4 16 = .ok (.iconst 2, 1) := by decide +kernel
theorem dJ6_bitCount_0f7a4_17 : decode cJ6_bitCount_0f7a4 17 = .ok (.iushr, 1) := by decide +kernel
theorem dJ6_bitCount_0f7a4_18 : decode cJ6_bitCount_0f7a4 18 = .ok (.ldc_w 266, 3) := by decide +kernel
theorem dJ6_bitCount_0f7a4_21 : decode cJ6_bitCount_0f7a4 21 = .ok (.iand, 1) := by decide +kernel
theorem dJ6_bitCount_0f7a4_22 : decode cJ6_bitCount_0f7a4 22 = .ok (.iadd, 1) := by decide +kernel
theorem dJ6_bitCount_0f7a4_23 : decode cJ6_bitCount_0f7a4 23 = .ok (.istore_n 0, 1) := by decide +kernel
theorem dJ6_bitCount_0f7a4_24 : decode cJ6_bitCount_0f7a4 24 = .ok (.iload_n 0, 1) := by decide +kernel
theorem dJ6_bitCount_0f7a4_25 : decode cJ6_bitCount_0f7a4 25 = .ok (.iload_n 0, 1) := by decide +kernel
theorem dJ6_bitCount_0f7a4_26 : decode cJ6_bitCount_0f7a4 26 = .ok (.iconst 4, 1) := by decide +kernel
theorem dJ6_bitCount_0f7a4_27 : decode cJ6_bitCount_0f7a4 27 = .ok (.iushr, 1) := by decide +kernel
theorem dJ6_bitCount_0f7a4_28 : decode cJ6_bitCount_0f7a4 28 = .ok (.iadd, 1) := by decide +kernel
theorem dJ6_bitCount_0f7a4_29 : decode cJ6_bitCount_0f7a4 29 = .ok (.ldc_w 267, 3) := by decide +kernel
theorem dJ6_bitCount_0f7a4_32 : decode cJ6_bitCount_0f7a4 32 = .ok (.iand, 1) := by decide +kernel
theorem dJ6_bitCount_0f7a4_33 : decode cJ6_bitCount_0f7a4 33 = .ok (.istore_n 0, 1) := by decide +kernel
theorem dJ6_bitCount_0f7a4_34 : decode cJ6_bitCount_0f7a4 34 = .ok (.iload_n 0, 1) := by decide +kernel
theorem dJ6_bitCount_0f7a4_35 : decode cJ6_bitCount_0f7a4 35 = .ok (.iload_n 0, 1) := by decide +kernel
theorem dJ6_bitCount_0f7a4_36 : decode cJ6_bitCount_0f7a4 36 = .ok (.bipush 8, 2) := by decide +kernel
theorem dJ6_bitCount_0f7a4_38 : decode cJ6_bitCount_0f7a4 38 = .ok (.iushr, 1) := by decide +kernel
theorem dJ6_bitCount_0f7a4_39 : decode cJ6_bitCount_0f7a4 39 = .ok (.iadd, 1) := by decide +kernel
theorem dJ6_bitCount_0f7a4_40 : decode cJ6_bitCount_0f7a4 40 = .ok (.istore_n 0, 1) := by decide +kernel
theorem dJ6_bitCount_0f7a4_41 : decode cJ6_bitCount_0f7a4 41 = .ok (.iload_n 0, 1) := by decide +kernel
theorem dJ6_bitCount_0f7a4_42 : decode cJ6_bitCount_0f7a4 42 = .ok (.iload_n 0, 1) := by decide +kernel
theorem dJ6_bitCount_0f7a4_43 : decode cJ6_bitCount_0f7a4 43 = .ok (.bipush 16, 2) := by decide +kernel
theorem dJ6_bitCount_0f7a4_45 : decode cJ6_bitCount_0f7a4 45 = .ok (.iushr, 1) := by decide +kernel
theorem dJ6_bitCount_0f7a4_46 : decode cJ6_bitCount_0f7a4 46 = .ok (.iadd, 1) := by decide +kernel
theorem dJ6_bitCount_0f7a4_47 : decode cJ6_bitCount_0f7a4 47 = .ok (.istore_n 0, 1) := by decide +kernel
theorem dJ6_bitCount_0f7a4_48 : decode cJ6_bitCount_0f7a4 48 = .ok (.iload_n 0, 1) := by decide +kernel
theorem dJ6_bitCount_0f7a4_49 : decode cJ6_bitCount_0f7a4 49 = .ok (.bipush 63, 2) := by decide +kernel
theorem dJ6_bitCount_0f7a4_51 : decode cJ6_bitCount_0f7a4 51 = .ok (.iand, 1) := by decide +kernel
theorem dJ6_bitCount_0f7a4_52 : decode cJ6_bitCount_0f7a4 52 = .ok (.ireturn, 1) := by decide +kernel
theorem dJ9_max_7cf53_0 : decode cJ9_max_7cf53 0 = .ok (.iload_n 0, 1) := by decide +kernel
theorem dJ9_max_7cf53_1 : decode cJ9_max_7cf53 1 = .ok (.iload_n 1, 1) := by decide +kernel
theorem dJ9_max_7cf53_2 : decode cJ9_max_7cf53 2 = .ok (.if_icmp .lt 7, 3) := by decide +kernel
theorem dJ9_max_7cf53_5 : decode cJ9_max_7cf53 5 = .ok (.iload_n 0, 1) := by decide +kernel
theorem dJ9_max_7cf53_6 : decode cJ9_max_7cf53 6 = .ok (.goto 4, 3) := by decide +kernel
theorem dJ9_max_7cf53_9 : decode cJ9_max_7cf53 9 = .ok (.iload_n 1, 1) := by decide +kernel
theorem dJ9_max_7cf53_10 : decode cJ9_max_7cf53 10 = .ok (.ireturn, 1) := by decide +kernel
theorem dJ9_min_7cf53_0 : decode cJ9_min_7cf53 0 = .ok (.iload_n 0, 1) := by decide +kernel
theorem dJ9_min_7cf53_1 : decode cJ9_min_7cf53 1 = .ok (.iload_n 1, 1) := by decide +kernel
theorem dJ9_min_7cf53_2 : decode cJ9_min_7cf53 2 = .ok (.if_icmp .gt 7, 3) := by decide +kernel
theorem dJ9_min_7cf53_5 : decode cJ9_min_7cf53 5 = .ok (.iload_n 0, 1) := by decide +kernel
theorem dJ9_min_7cf53_6 : decode cJ9_min_7cf53 6 = .ok (.goto 4, 3) := by decide +kernel
theorem dJ9_min_7cf53_9 : decode cJ9_min_7cf53 9 = .ok (.iload_n 1, 1) := by decide +kernel
theorem dJ9_min_7cf53_10 : decode cJ9_min_7cf53 10 = .ok (.ireturn, 1) := by decide +kernel
theorem dJ7_fill_53178_0 : decode cJ7_fill_53178 0 = .ok (.iconst 0, 1) := by decide +kernel
theorem dJ7_fill_53178_1 : decode cJ7_fill_53178 1 = .ok (.istore_n 2, 1) := by decide +kernel
theorem dJ7_fill_53178_2 : decode cJ7_fill_53178 2 = .ok (.aload_n 0, 1) := by decide +kernel
theorem dJ7_fill_53178_3 : decode cJ7_fill_53178 3 = .ok (.arraylength, 1) := by decide +kernel
theorem dJ7_fill_53178_4 : decode cJ7_fill_53178 4 = .ok (.istore_n 3, 1) := by decide +kernel
theorem dJ7_fill_53178_5 : decode cJ7_fill_53178 5 = .ok (.iload_n 2, 1) := by decide +kernel
theorem dJ7_fill_53178_6 : decode cJ7_fill_53178 6 = .ok (.iload_n 3, 1) := by decide +kernel
theorem dJ7_fill_53178_7 : decode cJ7_fill_53178 7 = .ok (.if_icmp .ge 13, 3) := by decide +kernel
theorem dJ7_fill_53178_10 : decode cJ7_fill_53178 10 = .ok (.aload_n 0, 1) := by decide +kernel
theorem dJ7_fill_53178_11 : decode cJ7_fill_53178 11 = .ok (.iload_n 2, 1) := by decide +kernel
theorem dJ7_fill_53178_12 : decode cJ7_fill_53178 12 = .ok (.iload_n 1, 1) := by decide +kernel
theorem dJ7_fill_53178_13 : decode cJ7_fill_53178 13 = .ok (.iastore, 1) := by decide +kernel
theorem dJ7_fill_53178_14 : decode cJ7_fill_53178 14 = .ok (.iinc 2 1, 3) := by decide +kernel
theorem dJ7_fill_53178_17 : decode cJ7_fill_53178 17 = .ok (.goto (-12), 3) := by decide +kernel
theorem dJ7_fill_53178_20 : decode cJ7_fill_53178 20 = .ok (.return_, 1) := by decide +kernel
