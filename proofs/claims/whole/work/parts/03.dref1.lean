theorem dX8_init_0 : decode cX8_init 0 = .ok (.aload_n 0, 1) := by decide +kernel
theorem dX8_init_1 : decode cX8_init 1 = .ok (.invokespecial 3, 3) := by decide +kernel
theorem dX8_init_4 : decode cX8_init 4 = .ok (.aload_n 0, 1) := by decide +kernel
theorem dX8_init_5 : decode cX8_init 5 = .ok (.sipush 400, 3) := by decide +kernel
theorem dX8_init_8 : decode cX8_init 8 = .ok (.newarray .byte, 2) := by decide +kernel
theorem dX8_init_10 : decode cX8_init 10 = .ok (.putfield 9, 3) := by decide +kernel
theorem dX8_init_13 : decode cX8_init 13 = .ok (.aload_n 0, 1) := by decide +kernel
theorem dX8_init_14 : decode cX8_init 14 = .ok (.bipush 40, 2) := by decide +kernel
theorem dX8_init_16 : decode cX8_init 16 = .ok (.newarray .int, 2) := by decide +kernel
theorem dX8_init_18 : decode cX8_init 18 = .ok (.putfield 13, 3) := by decide +kernel
theorem dX8_init_21 : decode cX8_init 21 = .ok (.aload_n 0, 1) := by decide +kernel
theorem dX8_init_22 : decode cX8_init 22 = .ok (.bipush 8, 2) := by decide +kernel
theorem dX8_init_24 : decode cX8_init 24 = .ok (.newarray .boolean, 2) := by decide +kernel
theorem dX8_init_26 : decode cX8_init 26 = .ok (.putfield 17, 3) := by decide +kernel
theorem dX8_init_29 : decode cX8_init 29 = .ok (.aload_n 0, 1) := by decide +kernel
theorem dX8_init_30 : decode cX8_init 30 = .ok (.sipush 480, 3) := by decide +kernel
theorem dX8_init_33 : decode cX8_init 33 = .ok (.newarray .int, 2) := by decide +kernel
theorem dX8_init_35 : decode cX8_init 35 = .ok (.putfield 21, 3) := by decide +kernel
theorem dX8_init_38 : decode cX8_init 38 = .ok (.aload_n 0, 1) := by decide +kernel
theorem dX8_init_39 : decode cX8_init 39 = .ok (.bipush 8, 2) := by decide +kernel
theorem dX8_init_41 : decode cX8_init 41 = .ok (.newarray .int, 2) := by decide +kernel
theorem dX8_init_43 : decode cX8_init 43 = .ok (.putfield 24, 3) := by decide +kernel
theorem dX8_init_46 : decode cX8_init 46 = .ok (.aload_n 0, 1) := by decide +kernel
theorem dX8_init_47 : decode cX8_init 47 = .ok (.bipush 60, 2) := by decide +kernel
theorem dX8_init_49 : decode cX8_init 49 = .ok (.newarray .int, 2) := by decide +kernel
theorem dX8_init_51 : decode cX8_init 51 = .ok (.putfield 27, 3) := by decide +kernel
theorem dX8_init_54 : decode cX8_init 54 = .ok (.aload_n 0, 1) := by decide +kernel
theorem dX8_init_55 : decode cX8_init 55 = .ok (.sipush 160, 3) := by decide +kernel
theorem dX8_init_58 : decode cX8_init 58 = .ok (.newarray .int, 2) := by decide +kernel
theorem dX8_init_60 : decode cX8_init 60 = .ok (.putfield 30, 3) := by decide +kernel
theorem dX8_init_63 : decode cX8_init 63 = .ok (.aload_n 0, 1) := by decide +kernel
theorem dX8_init_64 : decode cX8_init 64 = .ok (.bipush 40, 2) := by decide +kernel
theorem dX8_init_66 : decode cX8_init 66 = .ok (.newarray .int, 2) := by decide +kernel
theorem dX8_init_68 : decode cX8_init 68 = .ok (.putfield 33, 3) := by decide +kernel
theorem dX8_init_71 : decode cX8_init 71 = .ok (.aload_n 0, 1) := by decide +kernel
theorem dX8_init_72 : decode cX8_init 72 = .ok (.bipush 40, 2) := by decide +kernel
theorem dX8_init_74 : decode cX8_init 74 = .ok (.newarray .int, 2) := by decide +kernel
theorem dX8_init_76 : decode cX8_init 76 = .ok (.putfield 36, 3) := by decide +kernel
theorem dX8_init_79 : decode cX8_init 79 = .ok (.aload_n 0, 1) := by decide +kernel
theorem dX8_init_80 : decode cX8_init 80 = .ok (.bipush 40, 2) := by decide +kernel
theorem dX8_init_82 : decode cX8_init 82 = .ok (.newarray .int, 2) := by decide +kernel
theorem dX8_init_84 : decode cX8_init 84 = .ok (.putfield 39, 3) := by decide +kernel
theorem dX8_init_87 : decode cX8_init 87 = .ok (.aload_n 0, 1) := by decide +kernel
theorem dX8_init_88 : decode cX8_init 88 = .ok (.sipush 4400, 3) := by decide +kernel
theorem dX8_init_91 : decode cX8_init 91 = .ok (.newarray .int, 2) := by decide +kernel
theorem dX8_init_93 : decode cX8_init 93 = .ok (.putfield 42, 3) := by decide +kernel
theorem dX8_init_96 : decode cX8_init 96 = .ok (.aload_n 0, 1) := by decide +kernel
theorem dX8_init_97 : decode cX8_init 97 = .ok (.sipush 4400, 3) := by decide +kernel
theorem dX8_init_100 : decode cX8_init 100 = .ok (.newarray .int, 2) := by decide +kernel
theorem dX8_init_102 : decode cX8_init 102 = .ok (.putfield 45, 3) := by decide +kernel
theorem dX8_init_105 : decode cX8_init 105 = .ok (.aload_n 0, 1) := by decide +kernel
theorem dX8_init_106 : decode cX8_init 106 = .ok (.bipush 11, 2) := by decide +kernel
theorem dX8_init_108 : decode cX8_init 108 = .ok (.newarray .int, 2) := by decide +kernel
theorem dX8_init_110 : decode cX8_init 110 = .ok (.putfield 48, 3) := by decide +kernel
theorem dX8_init_113 : decode cX8_init 113 = .ok (.aload_n 0, 1) := by decide +kernel
theorem dX8_init_114 : decode cX8_init 114 = .ok (.bipush 10, 2) := by decide +kernel
theorem dX8_init_116 : decode cX8_init 116 = .ok (.newarray .boolean, 2) := by decide +kernel
theorem dX8_init_118 : decode cX8_init 118 = .ok (.putfield 51, 3) := by decide +kernel
theorem dX8_init_121 : decode cX8_init 121 = .ok (.aload_n 0, 1) := by decide +kernel
theorem dX8_init_122 : decode cX8_init 122 = .ok (.iconst (-1), 1) := by decide +kernel
theorem dX8_init_123 : decode cX8_init 123 = .ok (.putfield 54, 3) := by decide +kernel
theorem dX8_init_126 : decode cX8_init 126 = .ok (.aload_n 0, 1) := by decide +kernel
theorem dX8_init_127 : decode cX8_init 127 = .ok (.sipush 420, 3) := by decide +kernel
theorem dX8_init_130 : decode cX8_init 130 = .ok (.newarray .int, 2) := by decide +kernel
theorem dX8_init_132 : decode cX8_init 132 = .ok (.putfield 58, 3) := by decide +kernel
theorem dX8_init_135 : decode cX8_init 135 = .ok (.aload_n 0, 1) := by decide +kernel
theorem dX8_init_136 : decode cX8_init 136 = .ok (.bipush 80, 2) := by decide +kernel
theorem dX8_init_138 : decode cX8_init 138 = .ok (.newarray .int, 2) := by decide +kernel
theorem dX8_init_140 : decode cX8_init 140 = .ok (.putfield 61, 3) := by decide +kernel
theorem dX8_init_143 : decode cX8_init 143 = .ok (.aload_n 0, 1) := by decide +kernel
theorem dX8_init_144 : decode cX8_init 144 = .ok (.bipush 80, 2) := by decide +kernel
theorem dX8_init_146 : decode cX8_init 146 = .ok (.newarray .int, 2) := by decide +kernel
theorem dX8_init_148 : decode cX8_init 148 = .ok (.putfield 64, 3) := by decide +kernel
theorem dX8_init_151 : decode cX8_init 151 = .ok (.aload_n 0, 1) := by decide +kernel
theorem dX8_init_152 : decode cX8_init 152 = .ok (.bipush 80, 2) := by decide +kernel
theorem dX8_init_154 : decode cX8_init 154 = .ok (.newarray .int, 2) := by decide +kernel
theorem dX8_init_156 : decode cX8_init 156 = .ok (.putfield 67, 3) := by decide +kernel
theorem dX8_init_159 : decode cX8_init 159 = .ok (.aload_n 0, 1) := by decide +kernel
theorem dX8_init_160 : decode cX8_init 160 = .ok (.iconst 5, 1) := by decide +kernel
theorem dX8_init_161 : decode cX8_init 161 = .ok (.newarray .long, 2) := by decide +kernel
theorem dX8_init_163 : decode cX8_init 163 = .ok (.putfield 70, 3) := by decide +kernel
theorem dX8_init_166 : decode cX8_init 166 = .ok (.aload_n 0, 1) := by decide +kernel
theorem dX8_init_167 : decode cX8_init 167 = .ok (.iconst 5, 1) := by decide +kernel
theorem dX8_init_168 : decode cX8_init 168 = .ok (.newarray .int, 2) := by decide +kernel
theorem dX8_init_170 : decode cX8_init 170 = .ok (.putfield 74, 3) := by decide +kernel
theorem dX8_init_173 : decode cX8_init 173 = .ok (.aload_n 0, 1) := by decide +kernel
theorem dX8_init_174 : decode cX8_init 174 = .ok (.bipush 10, 2) := by decide +kernel
theorem dX8_init_176 : decode cX8_init 176 = .ok (.newarray .int, 2) := by decide +kernel
theorem dX8_init_178 : decode cX8_init 178 = .ok (.putfield 77, 3) := by decide +kernel
theorem dX8_init_181 : decode cX8_init 181 = .ok (.aload_n 0, 1) := by decide +kernel
theorem dX8_init_182 : decode cX8_init 182 = .ok (.bipush 10, 2) := by decide +kernel
theorem dX8_init_184 : decode cX8_init 184 = .ok (.newarray .boolean, 2) := by decide +kernel
theorem dX8_init_186 : decode cX8_init 186 = .ok (.putfield 80, 3) := by decide +kernel
theorem dX8_init_189 : decode cX8_init 189 = .ok (.aload_n 0, 1) := by decide +kernel
theorem dX8_init_190 : decode cX8_init 190 = .ok (.bipush 10, 2) := by decide +kernel
theorem dX8_init_192 : decode cX8_init 192 = .ok (.newarray .boolean, 2) := by decide +kernel
theorem dX8_init_194 : decode cX8_init 194 = .ok (.putfield 83, 3) := by decide +kernel
theorem dX8_init_197 : decode cX8_init 197 = .ok (.aload_n 0, 1) := by decide +kernel
theorem dX8_init_198 : decode cX8_init 198 = .ok (.sipush 400, 3) := by decide +kernel
theorem dX8_init_201 : decode cX8_init 201 = .ok (.newarray .boolean, 2) := by decide +kernel
theorem dX8_init_203 : decode cX8_init 203 = .ok (.putfield 86, 3) := by decide +kernel
theorem dX8_init_206 : decode cX8_init 206 = .ok (.aload_n 0, 1) := by decide +kernel
theorem dX8_init_207 : decode cX8_init 207 = .ok (.sipush 1600, 3) := by decide +kernel
theorem dX8_init_210 : decode cX8_init 210 = .ok (.newarray .long, 2) := by decide +kernel
theorem dX8_init_212 : decode cX8_init 212 = .ok (.putfield 89, 3) := by decide +kernel
theorem dX8_init_215 : decode cX8_init 215 = .ok (.aload_n 0, 1) := by decide +kernel
theorem dX8_init_216 : decode cX8_init 216 = .ok (.sipush 1600, 3) := by decide +kernel
theorem dX8_init_219 : decode cX8_init 219 = .ok (.newarray .long, 2) := by decide +kernel
theorem dX8_init_221 : decode cX8_init 221 = .ok (.putfield 92, 3) := by decide +kernel
theorem dX8_init_224 : decode cX8_init 224 = .ok (.aload_n 0, 1) := by decide +kernel
theorem dX8_init_225 : decode cX8_init 225 = .ok (.bipush 40, 2) := by decide +kernel
theorem dX8_init_227 : decode cX8_init 227 = .ok (.newarray .long, 2) := by decide +kernel
theorem dX8_init_229 : decode cX8_init 229 = .ok (.putfield 95, 3) := by decide +kernel
theorem dX8_init_232 : decode cX8_init 232 = .ok (.aload_n 0, 1) := by decide +kernel
theorem dX8_init_233 : decode cX8_init 233 = .ok (.bipush 80, 2) := by decide +kernel
theorem dX8_init_235 : decode cX8_init 235 = .ok (.newarray .long, 2) := by decide +kernel
theorem dX8_init_237 : decode cX8_init 237 = .ok (.putfield 98, 3) := by decide +kernel
theorem dX8_init_240 : decode cX8_init 240 = .ok (.aload_n 0, 1) := by decide +kernel
theorem dX8_init_241 : decode cX8_init 241 = .ok (.bipush 80, 2) := by decide +kernel
theorem dX8_init_243 : decode cX8_init 243 = .ok (.newarray .int, 2) := by decide +kernel
theorem dX8_init_245 : decode cX8_init 245 = .ok (.putfield 101, 3) := by decide +kernel
theorem dX8_init_248 : decode cX8_init 248 = .ok (.aload_n 0, 1) := by decide +kernel
theorem dX8_init_249 : decode cX8_init 249 = .ok (.bipush 40, 2) := by decide +kernel
theorem dX8_init_251 : decode cX8_init 251 = .ok (.newarray .boolean, 2) := by decide +kernel
theorem dX8_init_253 : decode cX8_init 253 = .ok (.putfield 104, 3) := by decide +kernel
theorem dX8_init_256 : decode cX8_init 256 = .ok (.aload_n 0, 1) := by decide +kernel
theorem dX8_init_257 : decode cX8_init 257 = .ok (.bipush 40, 2) := by decide +kernel
theorem dX8_init_259 : decode cX8_init 259 = .ok (.newarray .boolean, 2) := by decide +kernel
theorem dX8_init_261 : decode cX8_init 261 = .ok (.putfield 107, 3) := by decide +kernel
theorem dX8_init_264 : decode cX8_init 264 = .ok (.return_, 1) := by decide +kernel
theorem dX8_thrown_0 : decode cX8_thrown 0 = .ok (.aload_n 0, 1) := by decide +kernel
theorem dX8_thrown_1 : decode cX8_thrown 1 = .ok (.getfield 110, 3) := by decide +kernel
theorem dX8_thrown_4 : decode cX8_thrown 4 = .ok (.ireturn, 1) := by decide +kernel
theorem dX8_throwsIf_0 : decode cX8_throwsIf 0 = .ok (.iload_n 1, 1) := by decide +kernel
theorem dX8_throwsIf_1 : decode cX8_throwsIf 1 = .ok (.ifCond .eq 8, 3) := by decide +kernel
theorem dX8_throwsIf_4 : decode cX8_throwsIf 4 = .ok (.aload_n 0, 1) := by decide +kernel
theorem dX8_throwsIf_5 : decode cX8_throwsIf 5 = .ok (.iload_n 2, 1) := by decide +kernel
theorem dX8_throwsIf_6 : decode cX8_throwsIf 6 = .ok (.putfield 110, 3) := by decide +kernel
theorem dX8_throwsIf_9 : decode cX8_throwsIf 9 = .ok (.iload_n 1, 1) := by decide +kernel
theorem dX8_throwsIf_10 : decode cX8_throwsIf 10 = .ok (.ireturn, 1) := by decide +kernel
theorem dX8_in_0 : decode cX8_in 0 = .ok (.lload_n 0, 1) := by decide +kernel
theorem dX8_in_1 : decode cX8_in 1 = .ok (.lload_n 2, 1) := by decide +kernel
theorem dX8_in_2 : decode cX8_in 2 = .ok (.lcmp, 1) := by decide +kernel
theorem dX8_in_3 : decode cX8_in 3 = .ok (.ifCond .lt 14, 3) := by decide +kernel
theorem dX8_in_6 : decode cX8_in 6 = .ok (.lload_n 0, 1) := by decide +kernel
theorem dX8_in_7 : decode cX8_in 7 = .ok (.lload 4, 2) := by decide +kernel
theorem dX8_in_9 : decode cX8_in 9 = .ok (.lcmp, 1) := by decide +kernel
theorem dX8_in_10 : decode cX8_in 10 = .ok (.ifCond .gt 7, 3) := by decide +kernel
theorem dX8_in_13 : decode cX8_in 13 = .ok (.iconst 1, 1) := by decide +kernel
theorem dX8_in_14 : decode cX8_in 14 = .ok (.goto 4, 3) := by decide +kernel
theorem dX8_in_17 : decode cX8_in 17 = .ok (.iconst 0, 1) := by decide +kernel
theorem dX8_in_18 : decode cX8_in 18 = .ok (.ireturn, 1) := by decide +kernel
theorem dX8_noLift_0 : decode cX8_noLift 0 = .ok (.iload_n 1, 1) := by decide +kernel
theorem dX8_noLift_1 : decode cX8_noLift 1 = .ok (.i2l, 1) := by decide +kernel
theorem dX8_noLift_2 : decode cX8_noLift 2 = .ok (.lconst 0, 1) := by decide +kernel
theorem dX8_noLift_3 : decode cX8_noLift 3 = .ok (.aload_n 0, 1) := by decide +kernel
theorem dX8_noLift_4 : decode cX8_noLift 4 = .ok (.getfield 113, 3) := by decide +kernel
theorem dX8_noLift_7 : decode cX8_noLift 7 = .ok (.iconst 1, 1) := by decide +kernel
theorem dX8_noLift_8 : decode cX8_noLift 8 = .ok (.isub, 1) := by decide +kernel
theorem dX8_noLift_9 : decode cX8_noLift 9 = .ok (.i2l, 1) := by decide +kernel
theorem dX8_noLift_10 : decode cX8_noLift 10 = .ok (.invokestatic 116, 3) := by decide +kernel
theorem dX8_noLift_13 : decode cX8_noLift 13 = .ok (.ifCond .ne 7, 3) := by decide +kernel
theorem dX8_noLift_16 : decode cX8_noLift 16 = .ok (.iconst 1, 1) := by decide +kernel
theorem dX8_noLift_17 : decode cX8_noLift 17 = .ok (.goto 4, 3) := by decide +kernel
theorem dX8_noLift_20 : decode cX8_noLift 20 = .ok (.iconst 0, 1) := by decide +kernel
theorem dX8_noLift_21 : decode cX8_noLift 21 = .ok (.ireturn, 1) := by decide +kernel
theorem dX8_noSlope_0 : decode cX8_noSlope 0 = .ok (.iload_n 1, 1) := by decide +kernel
theorem dX8_noSlope_1 : decode cX8_noSlope 1 = .ok (.i2l, 1) := by decide +kernel
theorem dX8_noSlope_2 : decode cX8_noSlope 2 = .ok (.lconst 0, 1) := by decide +kernel
theorem dX8_noSlope_3 : decode cX8_noSlope 3 = .ok (.aload_n 0, 1) := by decide +kernel
theorem dX8_noSlope_4 : decode cX8_noSlope 4 = .ok (.getfield 120, 3) := by decide +kernel
theorem dX8_noSlope_7 : decode cX8_noSlope 7 = .ok (.iconst 1, 1) := by decide +kernel
theorem dX8_noSlope_8 : decode cX8_noSlope 8 = .ok (.isub, 1) := by decide +kernel
theorem dX8_noSlope_9 : decode cX8_noSlope 9 = .ok (.i2l, 1) := by decide +kernel
theorem dX8_noSlope_10 : decode cX8_noSlope 10 = .ok (.invokestatic 116, 3) := by decide +kernel
theorem dX8_noSlope_13 : decode cX8_noSlope 13 = .ok (.ifCond .ne 7, 3) := by decide +kernel
theorem dX8_noSlope_16 : decode cX8_noSlope 16 = .ok (.iconst 1, 1) := by decide +kernel
theorem dX8_noSlope_17 : decode cX8_noSlope 17 = .ok (.goto 4, 3) := by decide +kernel
theorem dX8_noSlope_20 : decode cX8_noSlope 20 = .ok (.iconst 0, 1) := by decide +kernel
theorem dX8_noSlope_21 : decode cX8_noSlope 21 = .ok (.ireturn, 1) := by decide +kernel
theorem dX8_noCell_0 : decode cX8_noCell 0 = .ok (.iload_n 1, 1) := by decide +kernel
theorem dX8_noCell_1 : decode cX8_noCell 1 = .ok (.i2l, 1) := by decide +kernel
theorem dX8_noCell_2 : decode cX8_noCell 2 = .ok (.lconst 0, 1) := by decide +kernel
theorem dX8_noCell_3 : decode cX8_noCell 3 = .ok (.aload_n 0, 1) := by decide +kernel
theorem dX8_noCell_4 : decode cX8_noCell 4 = .ok (.getfield 123, 3) := by decide +kernel
theorem dX8_noCell_7 : decode cX8_noCell 7 = .ok (.iconst 1, 1) := by decide +kernel
theorem dX8_noCell_8 : decode cX8_noCell 8 = .ok (.isub, 1) := by decide +kernel
theorem dX8_noCell_9 : decode cX8_noCell 9 = .ok (.i2l, 1) := by decide +kernel
theorem dX8_noCell_10 : decode cX8_noCell 10 = .ok (.invokestatic 116, 3) := by decide +kernel
theorem dX8_noCell_13 : decode cX8_noCell 13 = .ok (.ifCond .ne 7, 3) := by decide +kernel
theorem dX8_noCell_16 : decode cX8_noCell 16 = .ok (.iconst 1, 1) := by decide +kernel
theorem dX8_noCell_17 : decode cX8_noCell 17 = .ok (.goto 4, 3) := by decide +kernel
theorem dX8_noCell_20 : decode cX8_noCell 20 = .ok (.iconst 0, 1) := by decide +kernel
theorem dX8_noCell_21 : decode cX8_noCell 21 = .ok (.ireturn, 1) := by decide +kernel
theorem dX8_noGroup_0 : decode cX8_noGroup 0 = .ok (.iload_n 1, 1) := by decide +kernel
theorem dX8_noGroup_1 : decode cX8_noGroup 1 = .ok (.i2l, 1) := by decide +kernel
theorem dX8_noGroup_2 : decode cX8_noGroup 2 = .ok (.lconst 0, 1) := by decide +kernel
theorem dX8_noGroup_3 : decode cX8_noGroup 3 = .ok (.aload_n 0, 1) := by decide +kernel
theorem dX8_noGroup_4 : decode cX8_noGroup 4 = .ok (.getfield 126, 3) := by decide +kernel
theorem dX8_noGroup_7 : decode cX8_noGroup 7 = .ok (.iconst 1, 1) := by decide +kernel
theorem dX8_noGroup_8 : decode cX8_noGroup 8 = .ok (.isub, 1) := by decide +kernel
theorem dX8_noGroup_9 : decode cX8_noGroup 9 = .ok (.i2l, 1) := by decide +kernel
theorem dX8_noGroup_10 : decode cX8_noGroup 10 = .ok (.invokestatic 116, 3) := by decide +kernel
theorem dX8_noGroup_13 : decode cX8_noGroup 13 = .ok (.ifCond .ne 7, 3) := by decide +kernel
theorem dX8_noGroup_16 : decode cX8_noGroup 16 = .ok (.iconst 1, 1) := by decide +kernel
theorem dX8_noGroup_17 : decode cX8_noGroup 17 = .ok (.goto 4, 3) := by decide +kernel
theorem dX8_noGroup_20 : decode cX8_noGroup 20 = .ok (.iconst 0, 1) := by decide +kernel
theorem dX8_noGroup_21 : decode cX8_noGroup 21 = .ok (.ireturn, 1) := by decide +kernel
theorem dX8_noPlace_0 : decode cX8_noPlace 0 = .ok (.iload_n 0, 1) := by decide +kernel
theorem dX8_noPlace_1 : decode cX8_noPlace 1 = .ok (.i2l, 1) := by decide +kernel
theorem dX8_noPlace_2 : decode cX8_noPlace 2 = .ok (.lconst 0, 1) := by decide +kernel
theorem dX8_noPlace_3 : decode cX8_noPlace 3 = .ok (.ldc2_w 129, 3) := by decide +kernel
theorem dX8_noPlace_6 : decode cX8_noPlace 6 = .ok (.invokestatic 116, 3) := by decide +kernel
theorem dX8_noPlace_9 : decode cX8_noPlace 9 = .ok (.ifCond .ne 7, 3) := by decide +kernel
theorem dX8_noPlace_12 : decode cX8_noPlace 12 = .ok (.iconst 1, 1) := by decide +kernel
theorem dX8_noPlace_13 : decode cX8_noPlace 13 = .ok (.goto 4, 3) := by decide +kernel
theorem dX8_noPlace_16 : decode cX8_noPlace 16 = .ok (.iconst 0, 1) := by decide +kernel
theorem dX8_noPlace_17 : decode cX8_noPlace 17 = .ok (.ireturn, 1) := by decide +kernel
theorem dX8_feed_0 : decode cX8_feed 0 = .ok (.aload_n 0, 1) := by decide +kernel
theorem dX8_feed_1 : decode cX8_feed 1 = .ok (.iconst 0, 1) := by decide +kernel
theorem dX8_feed_2 : decode cX8_feed 2 = .ok (.putfield 110, 3) := by decide +kernel
theorem dX8_feed_5 : decode cX8_feed 5 = .ok (.aload_n 0, 1) := by decide +kernel
theorem dX8_feed_6 : decode cX8_feed 6 = .ok (.getfield 131, 3) := by decide +kernel
theorem dX8_feed_9 : decode cX8_feed 9 = .ok (.bipush 20, 2) := by decide +kernel
theorem dX8_feed_11 : decode cX8_feed 11 = .ok (.iadd, 1) := by decide +kernel
theorem dX8_feed_12 : decode cX8_feed 12 = .ok (.sipush 400, 3) := by decide +kernel
theorem dX8_feed_15 : decode cX8_feed 15 = .ok (.if_icmp .le 5, 3) := by decide +kernel
theorem dX8_feed_18 : decode cX8_feed 18 = .ok (.iconst (-1), 1) := by decide +kernel
theorem dX8_feed_19 : decode cX8_feed 19 = .ok (.ireturn, 1) := by decide +kernel
theorem dX8_feed_20 : decode cX8_feed 20 = .ok (.aload_n 0, 1) := by decide +kernel
theorem dX8_feed_21 : decode cX8_feed 21 = .ok (.getfield 74, 3) := by decide +kernel
theorem dX8_feed_24 : decode cX8_feed 24 = .ok (.iconst 0, 1) := by decide +kernel
theorem dX8_feed_25 : decode cX8_feed 25 = .ok (.iload_n 1, 1) := by decide +kernel
theorem dX8_feed_26 : decode cX8_feed 26 = .ok (.iastore, 1) := by decide +kernel
theorem dX8_feed_27 : decode cX8_feed 27 = .ok (.aload_n 0, 1) := by decide +kernel
theorem dX8_feed_28 : decode cX8_feed 28 = .ok (.getfield 74, 3) := by decide +kernel
theorem dX8_feed_31 : decode cX8_feed 31 = .ok (.iconst 1, 1) := by decide +kernel
theorem dX8_feed_32 : decode cX8_feed 32 = .ok (.iload_n 2, 1) := by decide +kernel
theorem dX8_feed_33 : decode cX8_feed 33 = .ok (.iastore, 1) := by decide +kernel
theorem dX8_feed_34 : decode cX8_feed 34 = .ok (.aload_n 0, 1) := by decide +kernel
theorem dX8_feed_35 : decode cX8_feed 35 = .ok (.getfield 74, 3) := by decide +kernel
theorem dX8_feed_38 : decode cX8_feed 38 = .ok (.iconst 2, 1) := by decide +kernel
theorem dX8_feed_39 : decode cX8_feed 39 = .ok (.iload_n 3, 1) := by decide +kernel
theorem dX8_feed_40 : decode cX8_feed 40 = .ok (.iastore, 1) := by decide +kernel
theorem dX8_feed_41 : decode cX8_feed 41 = .ok (.aload_n 0, 1) := by decide +kernel
theorem dX8_feed_42 : decode cX8_feed 42 = .ok (.getfield 74, 3) := by decide +kernel
theorem dX8_feed_45 : decode cX8_feed 45 = .ok (.iconst 3, 1) := by decide +kernel
theorem dX8_feed_46 : decode cX8_feed 46 = .ok (.iload 4, 2) := by decide +kernel
theorem dX8_feed_48 : decode cX8_feed 48 = .ok (.iastore, 1) := by decide +kernel
theorem dX8_feed_49 : decode cX8_feed 49 = .ok (.aload_n 0, 1) := by decide +kernel
theorem dX8_feed_50 : decode cX8_feed 50 = .ok (.getfield 74, 3) := by decide +kernel
theorem dX8_feed_53 : decode cX8_feed 53 = .ok (.iconst 4, 1) := by decide +kernel
theorem dX8_feed_54 : decode cX8_feed 54 = .ok (.iload 5, 2) := by decide +kernel
theorem dX8_feed_56 : decode cX8_feed 56 = .ok (.iastore, 1) := by decide +kernel
theorem dX8_feed_57 : decode cX8_feed 57 = .ok (.iconst 0, 1) := by decide +kernel
theorem dX8_feed_58 : decode cX8_feed 58 = .ok (.istore 6, 2) := by decide +kernel
theorem dX8_feed_60 : decode cX8_feed 60 = .ok (.iload 6, 2) := by decide +kernel
theorem dX8_feed_62 : decode cX8_feed 62 = .ok (.bipush 20, 2) := by decide +kernel
theorem dX8_feed_64 : decode cX8_feed 64 = .ok (.if_icmp .ge 42, 3) := by decide +kernel
theorem dX8_feed_67 : decode cX8_feed 67 = .ok (.aload_n 0, 1) := by decide +kernel
theorem dX8_feed_68 : decode cX8_feed 68 = .ok (.getfield 9, 3) := by decide +kernel
theorem dX8_feed_71 : decode cX8_feed 71 = .ok (.aload_n 0, 1) := by decide +kernel
theorem dX8_feed_72 : decode cX8_feed 72 = .ok (.getfield 131, 3) := by decide +kernel
theorem dX8_feed_75 : decode cX8_feed 75 = .ok (.iload 6, 2) := by decide +kernel
theorem dX8_feed_77 : decode cX8_feed 77 = .ok (.iadd, 1) := by decide +kernel
theorem dX8_feed_78 : decode cX8_feed 78 = .ok (.aload_n 0, 1) := by decide +kernel
theorem dX8_feed_79 : decode cX8_feed 79 = .ok (.getfield 74, 3) := by decide +kernel
theorem dX8_feed_82 : decode cX8_feed 82 = .ok (.iload 6, 2) := by decide +kernel
theorem dX8_feed_84 : decode cX8_feed 84 = .ok (.iconst 4, 1) := by decide +kernel
theorem dX8_feed_85 : decode cX8_feed 85 = .ok (.idiv, 1) := by decide +kernel
theorem dX8_feed_86 : decode cX8_feed 86 = .ok (.iaload, 1) := by decide +kernel
theorem dX8_feed_87 : decode cX8_feed 87 = .ok (.bipush 24, 2) := by decide +kernel
theorem dX8_feed_89 : decode cX8_feed 89 = .ok (.bipush 8, 2) := by decide +kernel
theorem dX8_feed_91 : decode cX8_feed 91 = .ok (.iload 6, 2) := by decide +kernel
theorem dX8_feed_93 : decode cX8_feed 93 = .ok (.iconst 4, 1) := by decide +kernel
theorem dX8_feed_94 : decode cX8_feed 94 = .ok (.irem, 1) := by decide +kernel
theorem dX8_feed_95 : decode cX8_feed 95 = .ok (.imul, 1) := by decide +kernel
theorem dX8_feed_96 : decode cX8_feed 96 = .ok (.isub, 1) := by decide +kernel
theorem dX8_feed_97 : decode cX8_feed 97 = .ok (.ishr, 1) := by decide +kernel
theorem dX8_feed_98 : decode cX8_feed 98 = .ok (.i2b, 1) := by decide +kernel
theorem dX8_feed_99 : decode cX8_feed 99 = .ok (.bastore, 1) := by decide +kernel
theorem dX8_feed_100 : decode cX8_feed 100 = .ok (.iinc 6 1, 3) := by decide +kernel
theorem dX8_feed_103 : decode cX8_feed 103 = .ok (.goto (-43), 3) := by decide +kernel
theorem dX8_feed_106 : decode cX8_feed 106 = .ok (.aload_n 0, 1) := by decide +kernel
theorem dX8_feed_107 : decode cX8_feed 107 = .ok (.dup, 1) := by decide +kernel
theorem dX8_feed_108 : decode cX8_feed 108 = .ok (.getfield 131, 3) := by decide +kernel
theorem dX8_feed_111 : decode cX8_feed 111 = .ok (.bipush 20, 2) := by decide +kernel
theorem dX8_feed_113 : decode cX8_feed 113 = .ok (.iadd, 1) := by decide +kernel
theorem dX8_feed_114 : decode cX8_feed 114 = .ok (.putfield 131, 3) := by decide +kernel
theorem dX8_feed_117 : decode cX8_feed 117 = .ok (.aload_n 0, 1) := by decide +kernel
theorem dX8_feed_118 : decode cX8_feed 118 = .ok (.getfield 131, 3) := by decide +kernel
theorem dX8_feed_121 : decode cX8_feed 121 = .ok (.ireturn, 1) := by decide +kernel
theorem dX8_end_0 : decode cX8_end 0 = .ok (.aload_n 0, 1) := by decide +kernel
theorem dX8_end_1 : decode cX8_end 1 = .ok (.iconst 0, 1) := by decide +kernel
theorem dX8_end_2 : decode cX8_end 2 = .ok (.putfield 110, 3) := by decide +kernel
theorem dX8_end_5 : decode cX8_end 5 = .ok (.iload_n 1, 1) := by decide +kernel
theorem dX8_end_6 : decode cX8_end 6 = .ok (.ifCond .lt 11, 3) := by decide +kernel
theorem dX8_end_9 : decode cX8_end 9 = .ok (.iload_n 1, 1) := by decide +kernel
theorem dX8_end_10 : decode cX8_end 10 = .ok (.aload_n 0, 1) := by decide +kernel
theorem dX8_end_11 : decode cX8_end 11 = .ok (.getfield 131, 3) := by decide +kernel
theorem dX8_end_14 : decode cX8_end 14 = .ok (.if_icmp .le 5, 3) := by decide +kernel
theorem dX8_end_17 : decode cX8_end 17 = .ok (.iconst 0, 1) := by decide +kernel
theorem dX8_end_18 : decode cX8_end 18 = .ok (.ireturn, 1) := by decide +kernel
theorem dX8_end_19 : decode cX8_end 19 = .ok (.aload_n 0, 1) := by decide +kernel
theorem dX8_end_20 : decode cX8_end 20 = .ok (.iload_n 1, 1) := by decide +kernel
theorem dX8_end_21 : decode cX8_end 21 = .ok (.putfield 131, 3) := by decide +kernel
theorem dX8_end_24 : decode cX8_end 24 = .ok (.iconst 1, 1) := by decide +kernel
theorem dX8_end_25 : decode cX8_end 25 = .ok (.ireturn, 1) := by decide +kernel
theorem dX8_lift_0 : decode cX8_lift 0 = .ok (.aload_n 0, 1) := by decide +kernel
theorem dX8_lift_1 : decode cX8_lift 1 = .ok (.iconst 0, 1) := by decide +kernel
theorem dX8_lift_2 : decode cX8_lift 2 = .ok (.putfield 110, 3) := by decide +kernel
theorem dX8_lift_5 : decode cX8_lift 5 = .ok (.aload_n 0, 1) := by decide +kernel
theorem dX8_lift_6 : decode cX8_lift 6 = .ok (.iload_n 1, 1) := by decide +kernel
theorem dX8_lift_7 : decode cX8_lift 7 = .ok (.invokestatic 134, 3) := by decide +kernel
theorem dX8_lift_10 : decode cX8_lift 10 = .ok (.ifCond .ne 10, 3) := by decide +kernel
theorem dX8_lift_13 : decode cX8_lift 13 = .ok (.iload_n 2, 1) := by decide +kernel
theorem dX8_lift_14 : decode cX8_lift 14 = .ok (.invokestatic 134, 3) := by decide +kernel
theorem dX8_lift_17 : decode cX8_lift 17 = .ok (.ifCond .eq 7, 3) := by decide +kernel
theorem dX8_lift_20 : decode cX8_lift 20 = .ok (.iconst 1, 1) := by decide +kernel
theorem dX8_lift_21 : decode cX8_lift 21 = .ok (.goto 4, 3) := by decide +kernel
theorem dX8_lift_24 : decode cX8_lift 24 = .ok (.iconst 0, 1) := by decide +kernel
theorem dX8_lift_25 : decode cX8_lift 25 = .ok (.iconst 1, 1) := by decide +kernel
theorem dX8_lift_26 : decode cX8_lift 26 = .ok (.invokevirtual 138, 3) := by decide +kernel
theorem dX8_lift_29 : decode cX8_lift 29 = .ok (.ifCond .ne 76, 3) := by decide +kernel
theorem dX8_lift_32 : decode cX8_lift 32 = .ok (.aload_n 0, 1) := by decide +kernel
theorem dX8_lift_33 : decode cX8_lift 33 = .ok (.iload_n 3, 1) := by decide +kernel
theorem dX8_lift_34 : decode cX8_lift 34 = .ok (.i2l, 1) := by decide +kernel
theorem dX8_lift_35 : decode cX8_lift 35 = .ok (.lconst 1, 1) := by decide +kernel
theorem dX8_lift_36 : decode cX8_lift 36 = .ok (.ldc2_w 142, 3) := by decide +kernel
theorem dX8_lift_39 : decode cX8_lift 39 = .ok (.invokestatic 116, 3) := by decide +kernel
theorem dX8_lift_42 : decode cX8_lift 42 = .ok (.ifCond .eq 29, 3) := by decide +kernel
theorem dX8_lift_45 : decode cX8_lift 45 = .ok (.iload 4, 2) := by decide +kernel
theorem dX8_lift_47 : decode cX8_lift 47 = .ok (.i2l, 1) := by decide +kernel
theorem dX8_lift_48 : decode cX8_lift 48 = .ok (.lconst 1, 1) := by decide +kernel
theorem dX8_lift_49 : decode cX8_lift 49 = .ok (.ldc2_w 144, 3) := by decide +kernel
theorem dX8_lift_52 : decode cX8_lift 52 = .ok (.invokestatic 116, 3) := by decide +kernel
theorem dX8_lift_55 : decode cX8_lift 55 = .ok (.ifCond .eq 16, 3) := by decide +kernel
theorem dX8_lift_58 : decode cX8_lift 58 = .ok (.iload 5, 2) := by decide +kernel
theorem dX8_lift_60 : decode cX8_lift 60 = .ok (.i2l, 1) := by decide +kernel
theorem dX8_lift_61 : decode cX8_lift 61 = .ok (.lconst 0, 1) := by decide +kernel
theorem dX8_lift_62 : decode cX8_lift 62 = .ok (.ldc2_w 146, 3) := by decide +kernel
theorem dX8_lift_65 : decode cX8_lift 65 = .ok (.invokestatic 116, 3) := by decide +kernel
theorem dX8_lift_68 : decode cX8_lift 68 = .ok (.ifCond .ne 7, 3) := by decide +kernel
theorem dX8_lift_71 : decode cX8_lift 71 = .ok (.iconst 1, 1) := by decide +kernel
theorem dX8_lift_72 : decode cX8_lift 72 = .ok (.goto 4, 3) := by decide +kernel
theorem dX8_lift_75 : decode cX8_lift 75 = .ok (.iconst 0, 1) := by decide +kernel
theorem dX8_lift_76 : decode cX8_lift 76 = .ok (.iconst 2, 1) := by decide +kernel
theorem dX8_lift_77 : decode cX8_lift 77 = .ok (.invokevirtual 138, 3) := by decide +kernel
theorem dX8_lift_80 : decode cX8_lift 80 = .ok (.ifCond .ne 25, 3) := by decide +kernel
theorem dX8_lift_83 : decode cX8_lift 83 = .ok (.aload_n 0, 1) := by decide +kernel
theorem dX8_lift_84 : decode cX8_lift 84 = .ok (.aload_n 0, 1) := by decide +kernel
theorem dX8_lift_85 : decode cX8_lift 85 = .ok (.getfield 113, 3) := by decide +kernel
theorem dX8_lift_88 : decode cX8_lift 88 = .ok (.bipush 8, 2) := by decide +kernel
theorem dX8_lift_90 : decode cX8_lift 90 = .ok (.if_icmp .ne 7, 3) := by decide +kernel
theorem dX8_lift_93 : decode cX8_lift 93 = .ok (.iconst 1, 1) := by decide +kernel
theorem dX8_lift_94 : decode cX8_lift 94 = .ok (.goto 4, 3) := by decide +kernel
theorem dX8_lift_97 : decode cX8_lift 97 = .ok (.iconst 0, 1) := by decide +kernel
theorem dX8_lift_98 : decode cX8_lift 98 = .ok (.iconst 3, 1) := by decide +kernel
theorem dX8_lift_99 : decode cX8_lift 99 = .ok (.invokevirtual 138, 3) := by decide +kernel
theorem dX8_lift_102 : decode cX8_lift 102 = .ok (.ifCond .eq 5, 3) := by decide +kernel
theorem dX8_lift_105 : decode cX8_lift 105 = .ok (.iconst 0, 1) := by decide +kernel
theorem dX8_lift_106 : decode cX8_lift 106 = .ok (.ireturn, 1) := by decide +kernel
theorem dX8_lift_107 : decode cX8_lift 107 = .ok (.iconst 5, 1) := by decide +kernel
theorem dX8_lift_108 : decode cX8_lift 108 = .ok (.aload_n 0, 1) := by decide +kernel
theorem dX8_lift_109 : decode cX8_lift 109 = .ok (.getfield 113, 3) := by decide +kernel
theorem dX8_lift_112 : decode cX8_lift 112 = .ok (.imul, 1) := by decide +kernel
theorem dX8_lift_113 : decode cX8_lift 113 = .ok (.istore 6, 2) := by decide +kernel
theorem dX8_lift_115 : decode cX8_lift 115 = .ok (.aload_n 0, 1) := by decide +kernel
theorem dX8_lift_116 : decode cX8_lift 116 = .ok (.getfield 13, 3) := by decide +kernel
theorem dX8_lift_119 : decode cX8_lift 119 = .ok (.iload 6, 2) := by decide +kernel
theorem dX8_lift_121 : decode cX8_lift 121 = .ok (.iload_n 1, 1) := by decide +kernel
theorem dX8_lift_122 : decode cX8_lift 122 = .ok (.iastore, 1) := by decide +kernel
theorem dX8_lift_123 : decode cX8_lift 123 = .ok (.aload_n 0, 1) := by decide +kernel
theorem dX8_lift_124 : decode cX8_lift 124 = .ok (.getfield 13, 3) := by decide +kernel
theorem dX8_lift_127 : decode cX8_lift 127 = .ok (.iload 6, 2) := by decide +kernel
theorem dX8_lift_129 : decode cX8_lift 129 = .ok (.iconst 1, 1) := by decide +kernel
theorem dX8_lift_130 : decode cX8_lift 130 = .ok (.iadd, 1) := by decide +kernel
theorem dX8_lift_131 : decode cX8_lift 131 = .ok (.iload_n 2, 1) := by decide +kernel
theorem dX8_lift_132 : decode cX8_lift 132 = .ok (.iastore, 1) := by decide +kernel
theorem dX8_lift_133 : decode cX8_lift 133 = .ok (.aload_n 0, 1) := by decide +kernel
theorem dX8_lift_134 : decode cX8_lift 134 = .ok (.getfield 13, 3) := by decide +kernel
theorem dX8_lift_137 : decode cX8_lift 137 = .ok (.iload 6, 2) := by decide +kernel
theorem dX8_lift_139 : decode cX8_lift 139 = .ok (.iconst 2, 1) := by decide +kernel
theorem dX8_lift_140 : decode cX8_lift 140 = .ok (.iadd, 1) := by decide +kernel
theorem dX8_lift_141 : decode cX8_lift 141 = .ok (.iload_n 3, 1) := by decide +kernel
theorem dX8_lift_142 : decode cX8_lift 142 = .ok (.iastore, 1) := by decide +kernel
theorem dX8_lift_143 : decode cX8_lift 143 = .ok (.aload_n 0, 1) := by decide +kernel
theorem dX8_lift_144 : decode cX8_lift 144 = .ok (.getfield 13, 3) := by decide +kernel
theorem dX8_lift_147 : decode cX8_lift 147 = .ok (.iload 6, 2) := by decide +kernel
theorem dX8_lift_149 : decode cX8_lift 149 = .ok (.iconst 3, 1) := by decide +kernel
theorem dX8_lift_150 : decode cX8_lift 150 = .ok (.iadd, 1) := by decide +kernel
theorem dX8_lift_151 : decode cX8_lift 151 = .ok (.iload 4, 2) := by decide +kernel
theorem dX8_lift_153 : decode cX8_lift 153 = .ok (.iastore, 1) := by decide +kernel
theorem dX8_lift_154 : decode cX8_lift 154 = .ok (.aload_n 0, 1) := by decide +kernel
theorem dX8_lift_155 : decode cX8_lift 155 = .ok (.getfield 13, 3) := by decide +kernel
theorem dX8_lift_158 : decode cX8_lift 158 = .ok (.iload 6, 2) := by decide +kernel
theorem dX8_lift_160 : decode cX8_lift 160 = .ok (.iconst 4, 1) := by decide +kernel
theorem dX8_lift_161 : decode cX8_lift 161 = .ok (.iadd, 1) := by decide +kernel
theorem dX8_lift_162 : decode cX8_lift 162 = .ok (.iload 5, 2) := by decide +kernel
theorem dX8_lift_164 : decode cX8_lift 164 = .ok (.iastore, 1) := by decide +kernel
theorem dX8_lift_165 : decode cX8_lift 165 = .ok (.aload_n 0, 1) := by decide +kernel
theorem dX8_lift_166 : decode cX8_lift 166 = .ok (.dup, 1) := by decide +kernel
theorem dX8_lift_167 : decode cX8_lift 167 = .ok (.getfield 113, 3) := by decide +kernel
theorem dX8_lift_170 : decode cX8_lift 170 = .ok (.iconst 1, 1) := by decide +kernel
theorem dX8_lift_171 : decode cX8_lift 171 = .ok (.iadd, 1) := by decide +kernel
theorem dX8_lift_172 : decode cX8_lift 172 = .ok (.putfield 113, 3) := by decide +kernel
theorem dX8_lift_175 : decode cX8_lift 175 = .ok (.aload_n 0, 1) := by decide +kernel
theorem dX8_lift_176 : decode cX8_lift 176 = .ok (.getfield 113, 3) := by decide +kernel
theorem dX8_lift_179 : decode cX8_lift 179 = .ok (.iconst 1, 1) := by decide +kernel
theorem dX8_lift_180 : decode cX8_lift 180 = .ok (.isub, 1) := by decide +kernel
theorem dX8_lift_181 : decode cX8_lift 181 = .ok (.ireturn, 1) := by decide +kernel
theorem dX8_slope_0 : decode cX8_slope 0 = .ok (.aload_n 0, 1) := by decide +kernel
theorem dX8_slope_1 : decode cX8_slope 1 = .ok (.iconst 0, 1) := by decide +kernel
theorem dX8_slope_2 : decode cX8_slope 2 = .ok (.putfield 110, 3) := by decide +kernel
theorem dX8_slope_5 : decode cX8_slope 5 = .ok (.aload_n 0, 1) := by decide +kernel
theorem dX8_slope_6 : decode cX8_slope 6 = .ok (.iload_n 1, 1) := by decide +kernel
theorem dX8_slope_7 : decode cX8_slope 7 = .ok (.invokestatic 134, 3) := by decide +kernel
theorem dX8_slope_10 : decode cX8_slope 10 = .ok (.ifCond .ne 10, 3) := by decide +kernel
theorem dX8_slope_13 : decode cX8_slope 13 = .ok (.iload_n 2, 1) := by decide +kernel
theorem dX8_slope_14 : decode cX8_slope 14 = .ok (.invokestatic 134, 3) := by decide +kernel
theorem dX8_slope_17 : decode cX8_slope 17 = .ok (.ifCond .eq 7, 3) := by decide +kernel
theorem dX8_slope_20 : decode cX8_slope 20 = .ok (.iconst 1, 1) := by decide +kernel
theorem dX8_slope_21 : decode cX8_slope 21 = .ok (.goto 4, 3) := by decide +kernel
theorem dX8_slope_24 : decode cX8_slope 24 = .ok (.iconst 0, 1) := by decide +kernel
theorem dX8_slope_25 : decode cX8_slope 25 = .ok (.iconst 1, 1) := by decide +kernel
theorem dX8_slope_26 : decode cX8_slope 26 = .ok (.invokevirtual 138, 3) := by decide +kernel
theorem dX8_slope_29 : decode cX8_slope 29 = .ok (.ifCond .ne 88, 3) := by decide +kernel
theorem dX8_slope_32 : decode cX8_slope 32 = .ok (.aload_n 0, 1) := by decide +kernel
theorem dX8_slope_33 : decode cX8_slope 33 = .ok (.iload_n 3, 1) := by decide +kernel
theorem dX8_slope_34 : decode cX8_slope 34 = .ok (.i2l, 1) := by decide +kernel
theorem dX8_slope_35 : decode cX8_slope 35 = .ok (.lconst 1, 1) := by decide +kernel
theorem dX8_slope_36 : decode cX8_slope 36 = .ok (.ldc2_w 142, 3) := by decide +kernel
theorem dX8_slope_39 : decode cX8_slope 39 = .ok (.invokestatic 116, 3) := by decide +kernel
theorem dX8_slope_42 : decode cX8_slope 42 = .ok (.ifCond .eq 29, 3) := by decide +kernel
theorem dX8_slope_45 : decode cX8_slope 45 = .ok (.iload 4, 2) := by decide +kernel
theorem dX8_slope_47 : decode cX8_slope 47 = .ok (.i2l, 1) := by decide +kernel
theorem dX8_slope_48 : decode cX8_slope 48 = .ok (.lconst 0, 1) := by decide +kernel
theorem dX8_slope_49 : decode cX8_slope 49 = .ok (.ldc2_w 129, 3) := by decide +kernel
theorem dX8_slope_52 : decode cX8_slope 52 = .ok (.invokestatic 116, 3) := by decide +kernel
theorem dX8_slope_55 : decode cX8_slope 55 = .ok (.ifCond .eq 16, 3) := by decide +kernel
theorem dX8_slope_58 : decode cX8_slope 58 = .ok (.iload 5, 2) := by decide +kernel
theorem dX8_slope_60 : decode cX8_slope 60 = .ok (.i2l, 1) := by decide +kernel
theorem dX8_slope_61 : decode cX8_slope 61 = .ok (.lconst 1, 1) := by decide +kernel
theorem dX8_slope_62 : decode cX8_slope 62 = .ok (.ldc2_w 148, 3) := by decide +kernel
theorem dX8_slope_65 : decode cX8_slope 65 = .ok (.invokestatic 116, 3) := by decide +kernel
theorem dX8_slope_68 : decode cX8_slope 68 = .ok (.ifCond .ne 7, 3) := by decide +kernel
theorem dX8_slope_71 : decode cX8_slope 71 = .ok (.iconst 1, 1) := by decide +kernel
theorem dX8_slope_72 : decode cX8_slope 72 = .ok (.goto 4, 3) := by decide +kernel
theorem dX8_slope_75 : decode cX8_slope 75 = .ok (.iconst 0, 1) := by decide +kernel
theorem dX8_slope_76 : decode cX8_slope 76 = .ok (.iconst 2, 1) := by decide +kernel
theorem dX8_slope_77 : decode cX8_slope 77 = .ok (.invokevirtual 138, 3) := by decide +kernel
theorem dX8_slope_80 : decode cX8_slope 80 = .ok (.ifCond .ne 37, 3) := by decide +kernel
theorem dX8_slope_83 : decode cX8_slope 83 = .ok (.aload_n 0, 1) := by decide +kernel
theorem dX8_slope_84 : decode cX8_slope 84 = .ok (.aload_n 0, 1) := by decide +kernel
theorem dX8_slope_85 : decode cX8_slope 85 = .ok (.getfield 120, 3) := by decide +kernel
theorem dX8_slope_88 : decode cX8_slope 88 = .ok (.bipush 10, 2) := by decide +kernel
theorem dX8_slope_90 : decode cX8_slope 90 = .ok (.if_icmp .eq 15, 3) := by decide +kernel
theorem dX8_slope_93 : decode cX8_slope 93 = .ok (.aload_n 0, 1) := by decide +kernel
theorem dX8_slope_94 : decode cX8_slope 94 = .ok (.getfield 123, 3) := by decide +kernel
theorem dX8_slope_97 : decode cX8_slope 97 = .ok (.iload 5, 2) := by decide +kernel
theorem dX8_slope_99 : decode cX8_slope 99 = .ok (.iadd, 1) := by decide +kernel
theorem dX8_slope_100 : decode cX8_slope 100 = .ok (.bipush 40, 2) := by decide +kernel
theorem dX8_slope_102 : decode cX8_slope 102 = .ok (.if_icmp .le 7, 3) := by decide +kernel
theorem dX8_slope_105 : decode cX8_slope 105 = .ok (.iconst 1, 1) := by decide +kernel
theorem dX8_slope_106 : decode cX8_slope 106 = .ok (.goto 4, 3) := by decide +kernel
theorem dX8_slope_109 : decode cX8_slope 109 = .ok (.iconst 0, 1) := by decide +kernel
theorem dX8_slope_110 : decode cX8_slope 110 = .ok (.iconst 3, 1) := by decide +kernel
theorem dX8_slope_111 : decode cX8_slope 111 = .ok (.invokevirtual 138, 3) := by decide +kernel
theorem dX8_slope_114 : decode cX8_slope 114 = .ok (.ifCond .eq 5, 3) := by decide +kernel
theorem dX8_slope_117 : decode cX8_slope 117 = .ok (.iconst 0, 1) := by decide +kernel
theorem dX8_slope_118 : decode cX8_slope 118 = .ok (.ireturn, 1) := by decide +kernel
theorem dX8_slope_119 : decode cX8_slope 119 = .ok (.bipush 6, 2) := by decide +kernel
theorem dX8_slope_121 : decode cX8_slope 121 = .ok (.aload_n 0, 1) := by decide +kernel
theorem dX8_slope_122 : decode cX8_slope 122 = .ok (.getfield 120, 3) := by decide +kernel
theorem dX8_slope_125 : decode cX8_slope 125 = .ok (.imul, 1) := by decide +kernel
theorem dX8_slope_126 : decode cX8_slope 126 = .ok (.istore 6, 2) := by decide +kernel
theorem dX8_slope_128 : decode cX8_slope 128 = .ok (.aload_n 0, 1) := by decide +kernel
theorem dX8_slope_129 : decode cX8_slope 129 = .ok (.getfield 27, 3) := by decide +kernel
theorem dX8_slope_132 : decode cX8_slope 132 = .ok (.iload 6, 2) := by decide +kernel
theorem dX8_slope_134 : decode cX8_slope 134 = .ok (.iload_n 1, 1) := by decide +kernel
theorem dX8_slope_135 : decode cX8_slope 135 = .ok (.iastore, 1) := by decide +kernel
theorem dX8_slope_136 : decode cX8_slope 136 = .ok (.aload_n 0, 1) := by decide +kernel
theorem dX8_slope_137 : decode cX8_slope 137 = .ok (.getfield 27, 3) := by decide +kernel
theorem dX8_slope_140 : decode cX8_slope 140 = .ok (.iload 6, 2) := by decide +kernel
theorem dX8_slope_142 : decode cX8_slope 142 = .ok (.iconst 1, 1) := by decide +kernel
theorem dX8_slope_143 : decode cX8_slope 143 = .ok (.iadd, 1) := by decide +kernel
theorem dX8_slope_144 : decode cX8_slope 144 = .ok (.iload_n 2, 1) := by decide +kernel
theorem dX8_slope_145 : decode cX8_slope 145 = .ok (.iastore, 1) := by decide +kernel
theorem dX8_slope_146 : decode cX8_slope 146 = .ok (.aload_n 0, 1) := by decide +kernel
theorem dX8_slope_147 : decode cX8_slope 147 = .ok (.getfield 27, 3) := by decide +kernel
theorem dX8_slope_150 : decode cX8_slope 150 = .ok (.iload 6, 2) := by decide +kernel
theorem dX8_slope_152 : decode cX8_slope 152 = .ok (.iconst 2, 1) := by decide +kernel
theorem dX8_slope_153 : decode cX8_slope 153 = .ok (.iadd, 1) := by decide +kernel
theorem dX8_slope_154 : decode cX8_slope 154 = .ok (.iload_n 3, 1) := by decide +kernel
theorem dX8_slope_155 : decode cX8_slope 155 = .ok (.iastore, 1) := by decide +kernel
theorem dX8_slope_156 : decode cX8_slope 156 = .ok (.aload_n 0, 1) := by decide +kernel
theorem dX8_slope_157 : decode cX8_slope 157 = .ok (.getfield 27, 3) := by decide +kernel
theorem dX8_slope_160 : decode cX8_slope 160 = .ok (.iload 6, 2) := by decide +kernel
theorem dX8_slope_162 : decode cX8_slope 162 = .ok (.iconst 3, 1) := by decide +kernel
theorem dX8_slope_163 : decode cX8_slope 163 = .ok (.iadd, 1) := by decide +kernel
theorem dX8_slope_164 : decode cX8_slope 164 = .ok (.iload 4, 2) := by decide +kernel
theorem dX8_slope_166 : decode cX8_slope 166 = .ok (.iastore, 1) := by decide +kernel
theorem dX8_slope_167 : decode cX8_slope 167 = .ok (.aload_n 0, 1) := by decide +kernel
theorem dX8_slope_168 : decode cX8_slope 168 = .ok (.getfield 27, 3) := by decide +kernel
theorem dX8_slope_171 : decode cX8_slope 171 = .ok (.iload 6, 2) := by decide +kernel
theorem dX8_slope_173 : decode cX8_slope 173 = .ok (.iconst 4, 1) := by decide +kernel
theorem dX8_slope_174 : decode cX8_slope 174 = .ok (.iadd, 1) := by decide +kernel
theorem dX8_slope_175 : decode cX8_slope 175 = .ok (.aload_n 0, 1) := by decide +kernel
theorem dX8_slope_176 : decode cX8_slope 176 = .ok (.getfield 123, 3) := by decide +kernel
theorem dX8_slope_179 : decode cX8_slope 179 = .ok (.iastore, 1) := by decide +kernel
theorem dX8_slope_180 : decode cX8_slope 180 = .ok (.aload_n 0, 1) := by decide +kernel
theorem dX8_slope_181 : decode cX8_slope 181 = .ok (.getfield 27, 3) := by decide +kernel
theorem dX8_slope_184 : decode cX8_slope 184 = .ok (.iload 6, 2) := by decide +kernel
theorem dX8_slope_186 : decode cX8_slope 186 = .ok (.iconst 5, 1) := by decide +kernel
theorem dX8_slope_187 : decode cX8_slope 187 = .ok (.iadd, 1) := by decide +kernel
theorem dX8_slope_188 : decode cX8_slope 188 = .ok (.iload 5, 2) := by decide +kernel
theorem dX8_slope_190 : decode cX8_slope 190 = .ok (.iastore, 1) := by decide +kernel
theorem dX8_slope_191 : decode cX8_slope 191 = .ok (.iconst 0, 1) := by decide +kernel
theorem dX8_slope_192 : decode cX8_slope 192 = .ok (.istore 7, 2) := by decide +kernel
theorem dX8_slope_194 : decode cX8_slope 194 = .ok (.iload 7, 2) := by decide +kernel
theorem dX8_slope_196 : decode cX8_slope 196 = .ok (.iload 5, 2) := by decide +kernel
theorem dX8_slope_198 : decode cX8_slope 198 = .ok (.if_icmp .ge 25, 3) := by decide +kernel
theorem dX8_slope_201 : decode cX8_slope 201 = .ok (.aload_n 0, 1) := by decide +kernel
theorem dX8_slope_202 : decode cX8_slope 202 = .ok (.getfield 33, 3) := by decide +kernel
theorem dX8_slope_205 : decode cX8_slope 205 = .ok (.aload_n 0, 1) := by decide +kernel
theorem dX8_slope_206 : decode cX8_slope 206 = .ok (.getfield 123, 3) := by decide +kernel
theorem dX8_slope_209 : decode cX8_slope 209 = .ok (.iload 7, 2) := by decide +kernel
theorem dX8_slope_211 : decode cX8_slope 211 = .ok (.iadd, 1) := by decide +kernel
theorem dX8_slope_212 : decode cX8_slope 212 = .ok (.aload_n 0, 1) := by decide +kernel
theorem dX8_slope_213 : decode cX8_slope 213 = .ok (.getfield 120, 3) := by decide +kernel
theorem dX8_slope_216 : decode cX8_slope 216 = .ok (.iastore, 1) := by decide +kernel
theorem dX8_slope_217 : decode cX8_slope 217 = .ok (.iinc 7 1, 3) := by decide +kernel
theorem dX8_slope_220 : decode cX8_slope 220 = .ok (.goto (-26), 3) := by decide +kernel
theorem dX8_slope_223 : decode cX8_slope 223 = .ok (.aload_n 0, 1) := by decide +kernel
theorem dX8_slope_224 : decode cX8_slope 224 = .ok (.dup, 1) := by decide +kernel
theorem dX8_slope_225 : decode cX8_slope 225 = .ok (.getfield 123, 3) := by decide +kernel
theorem dX8_slope_228 : decode cX8_slope 228 = .ok (.iload 5, 2) := by decide +kernel
theorem dX8_slope_230 : decode cX8_slope 230 = .ok (.iadd, 1) := by decide +kernel
theorem dX8_slope_231 : decode cX8_slope 231 = .ok (.putfield 123, 3) := by decide +kernel
theorem dX8_slope_234 : decode cX8_slope 234 = .ok (.aload_n 0, 1) := by decide +kernel
theorem dX8_slope_235 : decode cX8_slope 235 = .ok (.dup, 1) := by decide +kernel
theorem dX8_slope_236 : decode cX8_slope 236 = .ok (.getfield 120, 3) := by decide +kernel
theorem dX8_slope_239 : decode cX8_slope 239 = .ok (.iconst 1, 1) := by decide +kernel
theorem dX8_slope_240 : decode cX8_slope 240 = .ok (.iadd, 1) := by decide +kernel
theorem dX8_slope_241 : decode cX8_slope 241 = .ok (.putfield 120, 3) := by decide +kernel
theorem dX8_slope_244 : decode cX8_slope 244 = .ok (.aload_n 0, 1) := by decide +kernel
theorem dX8_slope_245 : decode cX8_slope 245 = .ok (.getfield 120, 3) := by decide +kernel
theorem dX8_slope_248 : decode cX8_slope 248 = .ok (.iconst 1, 1) := by decide +kernel
theorem dX8_slope_249 : decode cX8_slope 249 = .ok (.isub, 1) := by decide +kernel
theorem dX8_slope_250 : decode cX8_slope 250 = .ok (.ireturn, 1) := by decide +kernel
theorem dX8_isRunning_0 : decode cX8_isRunning 0 = .ok (.aload_n 0, 1) := by decide +kernel
theorem dX8_isRunning_1 : decode cX8_isRunning 1 = .ok (.getfield 17, 3) := by decide +kernel
theorem dX8_isRunning_4 : decode cX8_isRunning 4 = .ok (.iload_n 1, 1) := by decide +kernel
theorem dX8_isRunning_5 : decode cX8_isRunning 5 = .ok (.baload, 1) := by decide +kernel
theorem dX8_isRunning_6 : decode cX8_isRunning 6 = .ok (.ifCond .ne 24, 3) := by decide +kernel
theorem dX8_isRunning_9 : decode cX8_isRunning 9 = .ok (.aload_n 0, 1) := by decide +kernel
theorem dX8_isRunning_10 : decode cX8_isRunning 10 = .ok (.getfield 150, 3) := by decide +kernel
theorem dX8_isRunning_13 : decode cX8_isRunning 13 = .ok (.aload_n 0, 1) := by decide +kernel
theorem dX8_isRunning_14 : decode cX8_isRunning 14 = .ok (.getfield 13, 3) := by decide +kernel
theorem dX8_isRunning_17 : decode cX8_isRunning 17 = .ok (.iconst 5, 1) := by decide +kernel
theorem dX8_isRunning_18 : decode cX8_isRunning 18 = .ok (.iload_n 1, 1) := by decide +kernel
theorem dX8_isRunning_19 : decode cX8_isRunning 19 = .ok (.imul, 1) := by decide +kernel
theorem dX8_isRunning_20 : decode cX8_isRunning 20 = .ok (.iconst 4, 1) := by decide +kernel
theorem dX8_isRunning_21 : decode cX8_isRunning 21 = .ok (.iadd, 1) := by decide +kernel
theorem dX8_isRunning_22 : decode cX8_isRunning 22 = .ok (.iaload, 1) := by decide +kernel
theorem dX8_isRunning_23 : decode cX8_isRunning 23 = .ok (.if_icmp .gt 7, 3) := by decide +kernel
theorem dX8_isRunning_26 : decode cX8_isRunning 26 = .ok (.iconst 1, 1) := by decide +kernel
theorem dX8_isRunning_27 : decode cX8_isRunning 27 = .ok (.goto 4, 3) := by decide +kernel
theorem dX8_isRunning_30 : decode cX8_isRunning 30 = .ok (.iconst 0, 1) := by decide +kernel
theorem dX8_isRunning_31 : decode cX8_isRunning 31 = .ok (.ireturn, 1) := by decide +kernel
theorem dX8_word_0 : decode cX8_word 0 = .ok (.iload_n 0, 1) := by decide +kernel
theorem dX8_word_1 : decode cX8_word 1 = .ok (.tableswitch 71 1 8 #[47, 50, 53, 56, 59, 62, 65, 68], 47) := by decide +kernel
theorem dX8_word_48 : decode cX8_word 48 = .ok (.ldc 153, 2) := by decide +kernel
theorem dX8_word_50 : decode cX8_word 50 = .ok (.areturn, 1) := by decide +kernel
theorem dX8_word_51 : decode cX8_word 51 = .ok (.ldc 155, 2) := by decide +kernel
theorem dX8_word_53 : decode cX8_word 53 = .ok (.areturn, 1) := by decide +kernel
theorem dX8_word_54 : decode cX8_word 54 = .ok (.ldc 157, 2) := by decide +kernel
theorem dX8_word_56 : decode cX8_word 56 = .ok (.areturn, 1) := by decide +kernel
theorem dX8_word_57 : decode cX8_word 57 = .ok (.ldc 159, 2) := by decide +kernel
theorem dX8_word_59 : decode cX8_word 59 = .ok (.areturn, 1) := by decide +kernel
theorem dX8_word_60 : decode cX8_word 60 = .ok (.ldc 160, 2) := by decide +kernel
theorem dX8_word_62 : decode cX8_word 62 = .ok (.areturn, 1) := by decide +kernel
theorem dX8_word_63 : decode cX8_word 63 = .ok (.ldc 161, 2) := by decide +kernel
theorem dX8_word_65 : decode cX8_word 65 = .ok (.areturn, 1) := by decide +kernel
theorem dX8_word_66 : decode cX8_word 66 = .ok (.ldc 163, 2) := by decide +kernel
theorem dX8_word_68 : decode cX8_word 68 = .ok (.areturn, 1) := by decide +kernel
theorem dX8_word_69 : decode cX8_word 69 = .ok (.ldc 165, 2) := by decide +kernel
theorem dX8_word_71 : decode cX8_word 71 = .ok (.areturn, 1) := by decide +kernel
theorem dX8_word_72 : decode cX8_word 72 = .ok (.ldc 167, 2) := by decide +kernel
theorem dX8_word_74 : decode cX8_word 74 = .ok (.areturn, 1) := by decide +kernel
theorem dX8_fail_0 : decode cX8_fail 0 = .ok (.aload_n 0, 1) := by decide +kernel
theorem dX8_fail_1 : decode cX8_fail 1 = .ok (.getfield 168, 3) := by decide +kernel
theorem dX8_fail_4 : decode cX8_fail 4 = .ok (.ifCond .ge 8, 3) := by decide +kernel
theorem dX8_fail_7 : decode cX8_fail 7 = .ok (.aload_n 0, 1) := by decide +kernel
theorem dX8_fail_8 : decode cX8_fail 8 = .ok (.iload_n 1, 1) := by decide +kernel
theorem dX8_fail_9 : decode cX8_fail 9 = .ok (.putfield 168, 3) := by decide +kernel
theorem dX8_fail_12 : decode cX8_fail 12 = .ok (.return_, 1) := by decide +kernel
theorem dX8_isWord_0 : decode cX8_isWord 0 = .ok (.aload_n 0, 1) := by decide +kernel
theorem dX8_isWord_1 : decode cX8_isWord 1 = .ok (.getfield 171, 3) := by decide +kernel
theorem dX8_isWord_4 : decode cX8_isWord 4 = .ok (.aload_n 0, 1) := by decide +kernel
theorem dX8_isWord_5 : decode cX8_isWord 5 = .ok (.getfield 174, 3) := by decide +kernel
theorem dX8_isWord_8 : decode cX8_isWord 8 = .ok (.isub, 1) := by decide +kernel
theorem dX8_isWord_9 : decode cX8_isWord 9 = .ok (.aload_n 1, 1) := by decide +kernel
theorem dX8_isWord_10 : decode cX8_isWord 10 = .ok (.invokevirtual 177, 3) := by decide +kernel
theorem dX8_isWord_13 : decode cX8_isWord 13 = .ok (.if_icmp .ne 7, 3) := by decide +kernel
theorem dX8_isWord_16 : decode cX8_isWord 16 = .ok (.iconst 1, 1) := by decide +kernel
theorem dX8_isWord_17 : decode cX8_isWord 17 = .ok (.goto 4, 3) := by decide +kernel
theorem dX8_isWord_20 : decode cX8_isWord 20 = .ok (.iconst 0, 1) := by decide +kernel
theorem dX8_isWord_21 : decode cX8_isWord 21 = .ok (.istore_n 2, 1) := by decide +kernel
theorem dX8_isWord_22 : decode cX8_isWord 22 = .ok (.iconst 0, 1) := by decide +kernel
theorem dX8_isWord_23 : decode cX8_isWord 23 = .ok (.istore_n 3, 1) := by decide +kernel
theorem dX8_isWord_24 : decode cX8_isWord 24 = .ok (.iload_n 2, 1) := by decide +kernel
theorem dX8_isWord_25 : decode cX8_isWord 25 = .ok (.ifCond .eq 42, 3) := by decide +kernel
theorem dX8_isWord_28 : decode cX8_isWord 28 = .ok (.iload_n 3, 1) := by decide +kernel
theorem dX8_isWord_29 : decode cX8_isWord 29 = .ok (.aload_n 1, 1) := by decide +kernel
theorem dX8_isWord_30 : decode cX8_isWord 30 = .ok (.invokevirtual 177, 3) := by decide +kernel
theorem dX8_isWord_33 : decode cX8_isWord 33 = .ok (.if_icmp .ge 34, 3) := by decide +kernel
theorem dX8_isWord_36 : decode cX8_isWord 36 = .ok (.aload_n 0, 1) := by decide +kernel
theorem dX8_isWord_37 : decode cX8_isWord 37 = .ok (.getfield 9, 3) := by decide +kernel
theorem dX8_isWord_40 : decode cX8_isWord 40 = .ok (.aload_n 0, 1) := by decide +kernel
theorem dX8_isWord_41 : decode cX8_isWord 41 = .ok (.getfield 174, 3) := by decide +kernel
theorem dX8_isWord_44 : decode cX8_isWord 44 = .ok (.iload_n 3, 1) := by decide +kernel
theorem dX8_isWord_45 : decode cX8_isWord 45 = .ok (.iadd, 1) := by decide +kernel
theorem dX8_isWord_46 : decode cX8_isWord 46 = .ok (.baload, 1) := by decide +kernel
theorem dX8_isWord_47 : decode cX8_isWord 47 = .ok (.aload_n 1, 1) := by decide +kernel
theorem dX8_isWord_48 : decode cX8_isWord 48 = .ok (.iload_n 3, 1) := by decide +kernel
theorem dX8_isWord_49 : decode cX8_isWord 49 = .ok (.invokevirtual 183, 3) := by decide +kernel
theorem dX8_isWord_52 : decode cX8_isWord 52 = .ok (.if_icmp .ne 7, 3) := by decide +kernel
theorem dX8_isWord_55 : decode cX8_isWord 55 = .ok (.iconst 1, 1) := by decide +kernel
theorem dX8_isWord_56 : decode cX8_isWord 56 = .ok (.goto 4, 3) := by decide +kernel
theorem dX8_isWord_59 : decode cX8_isWord 59 = .ok (.iconst 0, 1) := by decide +kernel
theorem dX8_isWord_60 : decode cX8_isWord 60 = .ok (.istore_n 2, 1) := by decide +kernel
theorem dX8_isWord_61 : decode cX8_isWord 61 = .ok (.iinc 3 1, 3) := by decide +kernel
theorem dX8_isWord_64 : decode cX8_isWord 64 = .ok (.goto (-40), 3) := by decide +kernel
theorem dX8_isWord_67 : decode cX8_isWord 67 = .ok (.iload_n 2, 1) := by decide +kernel
theorem dX8_isWord_68 : decode cX8_isWord 68 = .ok (.ireturn, 1) := by decide +kernel
theorem dX8_next_0 : decode cX8_next 0 = .ok (.aload_n 0, 1) := by decide +kernel
theorem dX8_next_1 : decode cX8_next 1 = .ok (.getfield 171, 3) := by decide +kernel
theorem dX8_next_4 : decode cX8_next 4 = .ok (.aload_n 0, 1) := by decide +kernel
theorem dX8_next_5 : decode cX8_next 5 = .ok (.getfield 187, 3) := by decide +kernel
theorem dX8_next_8 : decode cX8_next 8 = .ok (.if_icmp .ge 30, 3) := by decide +kernel
theorem dX8_next_11 : decode cX8_next 11 = .ok (.aload_n 0, 1) := by decide +kernel
theorem dX8_next_12 : decode cX8_next 12 = .ok (.getfield 9, 3) := by decide +kernel
theorem dX8_next_15 : decode cX8_next 15 = .ok (.aload_n 0, 1) := by decide +kernel
theorem dX8_next_16 : decode cX8_next 16 = .ok (.getfield 171, 3) := by decide +kernel
theorem dX8_next_19 : decode cX8_next 19 = .ok (.baload, 1) := by decide +kernel
theorem dX8_next_20 : decode cX8_next 20 = .ok (.bipush 32, 2) := by decide +kernel
theorem dX8_next_22 : decode cX8_next 22 = .ok (.if_icmp .ne 16, 3) := by decide +kernel
theorem dX8_next_25 : decode cX8_next 25 = .ok (.aload_n 0, 1) := by decide +kernel
theorem dX8_next_26 : decode cX8_next 26 = .ok (.dup, 1) := by decide +kernel
theorem dX8_next_27 : decode cX8_next 27 = .ok (.getfield 171, 3) := by decide +kernel
theorem dX8_next_30 : decode cX8_next 30 = .ok (.iconst 1, 1) := by decide +kernel
theorem dX8_next_31 : decode cX8_next 31 = .ok (.iadd, 1) := by decide +kernel
theorem dX8_next_32 : decode cX8_next 32 = .ok (.putfield 171, 3) := by decide +kernel
theorem dX8_next_35 : decode cX8_next 35 = .ok (.goto (-35), 3) := by decide +kernel
theorem dX8_next_38 : decode cX8_next 38 = .ok (.aload_n 0, 1) := by decide +kernel
theorem dX8_next_39 : decode cX8_next 39 = .ok (.aload_n 0, 1) := by decide +kernel
theorem dX8_next_40 : decode cX8_next 40 = .ok (.getfield 171, 3) := by decide +kernel
theorem dX8_next_43 : decode cX8_next 43 = .ok (.putfield 174, 3) := by decide +kernel
theorem dX8_next_46 : decode cX8_next 46 = .ok (.aload_n 0, 1) := by decide +kernel
theorem dX8_next_47 : decode cX8_next 47 = .ok (.iconst 0, 1) := by decide +kernel
theorem dX8_next_48 : decode cX8_next 48 = .ok (.putfield 190, 3) := by decide +kernel
theorem dX8_next_51 : decode cX8_next 51 = .ok (.aload_n 0, 1) := by decide +kernel
theorem dX8_next_52 : decode cX8_next 52 = .ok (.getfield 171, 3) := by decide +kernel
theorem dX8_next_55 : decode cX8_next 55 = .ok (.aload_n 0, 1) := by decide +kernel
theorem dX8_next_56 : decode cX8_next 56 = .ok (.getfield 187, 3) := by decide +kernel
theorem dX8_next_59 : decode cX8_next 59 = .ok (.if_icmp .ne 9, 3) := by decide +kernel
theorem dX8_next_62 : decode cX8_next 62 = .ok (.aload_n 0, 1) := by decide +kernel
theorem dX8_next_63 : decode cX8_next 63 = .ok (.iconst 0, 1) := by decide +kernel
theorem dX8_next_64 : decode cX8_next 64 = .ok (.putfield 193, 3) := by decide +kernel
theorem dX8_next_67 : decode cX8_next 67 = .ok (.return_, 1) := by decide +kernel
theorem dX8_next_68 : decode cX8_next 68 = .ok (.aload_n 0, 1) := by decide +kernel
theorem dX8_next_69 : decode cX8_next 69 = .ok (.getfield 9, 3) := by decide +kernel
theorem dX8_next_72 : decode cX8_next 72 = .ok (.aload_n 0, 1) := by decide +kernel
theorem dX8_next_73 : decode cX8_next 73 = .ok (.getfield 171, 3) := by decide +kernel
theorem dX8_next_76 : decode cX8_next 76 = .ok (.baload, 1) := by decide +kernel
theorem dX8_next_77 : decode cX8_next 77 = .ok (.istore_n 1, 1) := by decide +kernel
theorem dX8_next_78 : decode cX8_next 78 = .ok (.iload_n 1, 1) := by decide +kernel
theorem dX8_next_79 : decode cX8_next 79 = .ok (.bipush 97, 2) := by decide +kernel
theorem dX8_next_81 : decode cX8_next 81 = .ok (.if_icmp .lt 114, 3) := by decide +kernel
theorem dX8_next_84 : decode cX8_next 84 = .ok (.iload_n 1, 1) := by decide +kernel
theorem dX8_next_85 : decode cX8_next 85 = .ok (.bipush 122, 2) := by decide +kernel
theorem dX8_next_87 : decode cX8_next 87 = .ok (.if_icmp .gt 108, 3) := by decide +kernel
theorem dX8_next_90 : decode cX8_next 90 = .ok (.aload_n 0, 1) := by decide +kernel
theorem dX8_next_91 : decode cX8_next 91 = .ok (.iconst 1, 1) := by decide +kernel
theorem dX8_next_92 : decode cX8_next 92 = .ok (.putfield 193, 3) := by decide +kernel
theorem dX8_next_95 : decode cX8_next 95 = .ok (.aload_n 0, 1) := by decide +kernel
theorem dX8_next_96 : decode cX8_next 96 = .ok (.getfield 171, 3) := by decide +kernel
theorem dX8_next_99 : decode cX8_next 99 = .ok (.aload_n 0, 1) := by decide +kernel
theorem dX8_next_100 : decode cX8_next 100 = .ok (.getfield 187, 3) := by decide +kernel
theorem dX8_next_103 : decode cX8_next 103 = .ok (.if_icmp .ge 44, 3) := by decide +kernel
theorem dX8_next_106 : decode cX8_next 106 = .ok (.aload_n 0, 1) := by decide +kernel
theorem dX8_next_107 : decode cX8_next 107 = .ok (.getfield 9, 3) := by decide +kernel
theorem dX8_next_110 : decode cX8_next 110 = .ok (.aload_n 0, 1) := by decide +kernel
theorem dX8_next_111 : decode cX8_next 111 = .ok (.getfield 171, 3) := by decide +kernel
theorem dX8_next_114 : decode cX8_next 114 = .ok (.baload, 1) := by decide +kernel
theorem dX8_next_115 : decode cX8_next 115 = .ok (.bipush 97, 2) := by decide +kernel
theorem dX8_next_117 : decode cX8_next 117 = .ok (.if_icmp .lt 30, 3) := by decide +kernel
theorem dX8_next_120 : decode cX8_next 120 = .ok (.aload_n 0, 1) := by decide +kernel
theorem dX8_next_121 : decode cX8_next 121 = .ok (.getfield 9, 3) := by decide +kernel
theorem dX8_next_124 : decode cX8_next 124 = .ok (.aload_n 0, 1) := by decide +kernel
theorem dX8_next_125 : decode cX8_next 125 = .ok (.getfield 171, 3) := by decide +kernel
theorem dX8_next_128 : decode cX8_next 128 = .ok (.baload, 1) := by decide +kernel
theorem dX8_next_129 : decode cX8_next 129 = .ok (.bipush 122, 2) := by decide +kernel
theorem dX8_next_131 : decode cX8_next 131 = .ok (.if_icmp .gt 16, 3) := by decide +kernel
theorem dX8_next_134 : decode cX8_next 134 = .ok (.aload_n 0, 1) := by decide +kernel
theorem dX8_next_135 : decode cX8_next 135 = .ok (.dup, 1) := by decide +kernel
theorem dX8_next_136 : decode cX8_next 136 = .ok (.getfield 171, 3) := by decide +kernel
theorem dX8_next_139 : decode cX8_next 139 = .ok (.iconst 1, 1) := by decide +kernel
theorem dX8_next_140 : decode cX8_next 140 = .ok (.iadd, 1) := by decide +kernel
theorem dX8_next_141 : decode cX8_next 141 = .ok (.putfield 171, 3) := by decide +kernel
theorem dX8_next_144 : decode cX8_next 144 = .ok (.goto (-49), 3) := by decide +kernel
theorem dX8_next_147 : decode cX8_next 147 = .ok (.iconst 1, 1) := by decide +kernel
theorem dX8_next_148 : decode cX8_next 148 = .ok (.istore_n 2, 1) := by decide +kernel
theorem dX8_next_149 : decode cX8_next 149 = .ok (.iload_n 2, 1) := by decide +kernel
theorem dX8_next_150 : decode cX8_next 150 = .ok (.bipush 10, 2) := by decide +kernel
theorem dX8_next_152 : decode cX8_next 152 = .ok (.if_icmp .ge 25, 3) := by decide +kernel
theorem dX8_next_155 : decode cX8_next 155 = .ok (.aload_n 0, 1) := by decide +kernel
theorem dX8_next_156 : decode cX8_next 156 = .ok (.iload_n 2, 1) := by decide +kernel
theorem dX8_next_157 : decode cX8_next 157 = .ok (.invokestatic 196, 3) := by decide +kernel
theorem dX8_next_160 : decode cX8_next 160 = .ok (.invokevirtual 200, 3) := by decide +kernel
theorem dX8_next_163 : decode cX8_next 163 = .ok (.ifCond .eq 8, 3) := by decide +kernel
theorem dX8_next_166 : decode cX8_next 166 = .ok (.aload_n 0, 1) := by decide +kernel
theorem dX8_next_167 : decode cX8_next 167 = .ok (.iload_n 2, 1) := by decide +kernel
theorem dX8_next_168 : decode cX8_next 168 = .ok (.putfield 190, 3) := by decide +kernel
theorem dX8_next_171 : decode cX8_next 171 = .ok (.iinc 2 1, 3) := by decide +kernel
theorem dX8_next_174 : decode cX8_next 174 = .ok (.goto (-25), 3) := by decide +kernel
theorem dX8_next_177 : decode cX8_next 177 = .ok (.aload_n 0, 1) := by decide +kernel
theorem dX8_next_178 : decode cX8_next 178 = .ok (.getfield 190, 3) := by decide +kernel
theorem dX8_next_181 : decode cX8_next 181 = .ok (.ifCond .ne 204, 3) := by decide +kernel
theorem dX8_next_184 : decode cX8_next 184 = .ok (.aload_n 0, 1) := by decide +kernel
theorem dX8_next_185 : decode cX8_next 185 = .ok (.aload_n 0, 1) := by decide +kernel
theorem dX8_next_186 : decode cX8_next 186 = .ok (.getfield 174, 3) := by decide +kernel
theorem dX8_next_189 : decode cX8_next 189 = .ok (.invokevirtual 204, 3) := by decide +kernel
theorem dX8_next_192 : decode cX8_next 192 = .ok (.goto 193, 3) := by decide +kernel
theorem dX8_next_195 : decode cX8_next 195 = .ok (.iload_n 1, 1) := by decide +kernel
theorem dX8_next_196 : decode cX8_next 196 = .ok (.bipush 48, 2) := by decide +kernel
theorem dX8_next_198 : decode cX8_next 198 = .ok (.if_icmp .lt 129, 3) := by decide +kernel
theorem dX8_next_201 : decode cX8_next 201 = .ok (.iload_n 1, 1) := by decide +kernel
theorem dX8_next_202 : decode cX8_next 202 = .ok (.bipush 57, 2) := by decide +kernel
theorem dX8_next_204 : decode cX8_next 204 = .ok (.if_icmp .gt 123, 3) := by decide +kernel
theorem dX8_next_207 : decode cX8_next 207 = .ok (.aload_n 0, 1) := by decide +kernel
theorem dX8_next_208 : decode cX8_next 208 = .ok (.iconst 2, 1) := by decide +kernel
theorem dX8_next_209 : decode cX8_next 209 = .ok (.putfield 193, 3) := by decide +kernel
theorem dX8_next_212 : decode cX8_next 212 = .ok (.aload_n 0, 1) := by decide +kernel
theorem dX8_next_213 : decode cX8_next 213 = .ok (.getfield 171, 3) := by decide +kernel
theorem dX8_next_216 : decode cX8_next 216 = .ok (.aload_n 0, 1) := by decide +kernel
theorem dX8_next_217 : decode cX8_next 217 = .ok (.getfield 187, 3) := by decide +kernel
theorem dX8_next_220 : decode cX8_next 220 = .ok (.if_icmp .ge 82, 3) := by decide +kernel
theorem dX8_next_223 : decode cX8_next 223 = .ok (.aload_n 0, 1) := by decide +kernel
theorem dX8_next_224 : decode cX8_next 224 = .ok (.getfield 9, 3) := by decide +kernel
theorem dX8_next_227 : decode cX8_next 227 = .ok (.aload_n 0, 1) := by decide +kernel
theorem dX8_next_228 : decode cX8_next 228 = .ok (.getfield 171, 3) := by decide +kernel
theorem dX8_next_231 : decode cX8_next 231 = .ok (.baload, 1) := by decide +kernel
theorem dX8_next_232 : decode cX8_next 232 = .ok (.bipush 48, 2) := by decide +kernel
theorem dX8_next_234 : decode cX8_next 234 = .ok (.if_icmp .lt 68, 3) := by decide +kernel
theorem dX8_next_237 : decode cX8_next 237 = .ok (.aload_n 0, 1) := by decide +kernel
theorem dX8_next_238 : decode cX8_next 238 = .ok (.getfield 9, 3) := by decide +kernel
theorem dX8_next_241 : decode cX8_next 241 = .ok (.aload_n 0, 1) := by decide +kernel
theorem dX8_next_242 : decode cX8_next 242 = .ok (.getfield 171, 3) := by decide +kernel
theorem dX8_next_245 : decode cX8_next 245 = .ok (.baload, 1) := by decide +kernel
theorem dX8_next_246 : decode cX8_next 246 = .ok (.bipush 57, 2) := by decide +kernel
theorem dX8_next_248 : decode cX8_next 248 = .ok (.if_icmp .gt 54, 3) := by decide +kernel
theorem dX8_next_251 : decode cX8_next 251 = .ok (.aload_n 0, 1) := by decide +kernel
theorem dX8_next_252 : decode cX8_next 252 = .ok (.getfield 171, 3) := by decide +kernel
theorem dX8_next_255 : decode cX8_next 255 = .ok (.aload_n 0, 1) := by decide +kernel
theorem dX8_next_256 : decode cX8_next 256 = .ok (.getfield 174, 3) := by decide +kernel
theorem dX8_next_259 : decode cX8_next 259 = .ok (.isub, 1) := by decide +kernel
theorem dX8_next_260 : decode cX8_next 260 = .ok (.bipush 6, 2) := by decide +kernel
theorem dX8_next_262 : decode cX8_next 262 = .ok (.if_icmp .ge 27, 3) := by decide +kernel
theorem dX8_next_265 : decode cX8_next 265 = .ok (.aload_n 0, 1) := by decide +kernel
theorem dX8_next_266 : decode cX8_next 266 = .ok (.bipush 10, 2) := by decide +kernel
theorem dX8_next_268 : decode cX8_next 268 = .ok (.aload_n 0, 1) := by decide +kernel
theorem dX8_next_269 : decode cX8_next 269 = .ok (.getfield 190, 3) := by decide +kernel
theorem dX8_next_272 : decode cX8_next 272 = .ok (.imul, 1) := by decide +kernel
theorem dX8_next_273 : decode cX8_next 273 = .ok (.aload_n 0, 1) := by decide +kernel
theorem dX8_next_274 : decode cX8_next 274 = .ok (.getfield 9, 3) := by decide +kernel
theorem dX8_next_277 : decode cX8_next 277 = .ok (.aload_n 0, 1) := by decide +kernel
theorem dX8_next_278 : decode cX8_next 278 = .ok (.getfield 171, 3) := by decide +kernel
theorem dX8_next_281 : decode cX8_next 281 = .ok (.baload, 1) := by decide +kernel
theorem dX8_next_282 : decode cX8_next 282 = .ok (.iadd, 1) := by decide +kernel
theorem dX8_next_283 : decode cX8_next 283 = .ok (.bipush 48, 2) := by decide +kernel
theorem dX8_next_285 : decode cX8_next 285 = .ok (.isub, 1) := by decide +kernel
theorem dX8_next_286 : decode cX8_next 286 = .ok (.putfield 190, 3) := by decide +kernel
theorem dX8_next_289 : decode cX8_next 289 = .ok (.aload_n 0, 1) := by decide +kernel
theorem dX8_next_290 : decode cX8_next 290 = .ok (.dup, 1) := by decide +kernel
theorem dX8_next_291 : decode cX8_next 291 = .ok (.getfield 171, 3) := by decide +kernel
theorem dX8_next_294 : decode cX8_next 294 = .ok (.iconst 1, 1) := by decide +kernel
theorem dX8_next_295 : decode cX8_next 295 = .ok (.iadd, 1) := by decide +kernel
theorem dX8_next_296 : decode cX8_next 296 = .ok (.putfield 171, 3) := by decide +kernel
theorem dX8_next_299 : decode cX8_next 299 = .ok (.goto (-87), 3) := by decide +kernel
theorem dX8_next_302 : decode cX8_next 302 = .ok (.aload_n 0, 1) := by decide +kernel
theorem dX8_next_303 : decode cX8_next 303 = .ok (.getfield 171, 3) := by decide +kernel
theorem dX8_next_306 : decode cX8_next 306 = .ok (.aload_n 0, 1) := by decide +kernel
theorem dX8_next_307 : decode cX8_next 307 = .ok (.getfield 174, 3) := by decide +kernel
theorem dX8_next_310 : decode cX8_next 310 = .ok (.isub, 1) := by decide +kernel
theorem dX8_next_311 : decode cX8_next 311 = .ok (.bipush 6, 2) := by decide +kernel
theorem dX8_next_313 : decode cX8_next 313 = .ok (.if_icmp .le 72, 3) := by decide +kernel
theorem dX8_next_316 : decode cX8_next 316 = .ok (.aload_n 0, 1) := by decide +kernel
theorem dX8_next_317 : decode cX8_next 317 = .ok (.aload_n 0, 1) := by decide +kernel
theorem dX8_next_318 : decode cX8_next 318 = .ok (.getfield 174, 3) := by decide +kernel
theorem dX8_next_321 : decode cX8_next 321 = .ok (.invokevirtual 204, 3) := by decide +kernel
theorem dX8_next_324 : decode cX8_next 324 = .ok (.goto 61, 3) := by decide +kernel
theorem dX8_next_327 : decode cX8_next 327 = .ok (.aload_n 0, 1) := by decide +kernel
theorem dX8_next_328 : decode cX8_next 328 = .ok (.iconst 3, 1) := by decide +kernel
theorem dX8_next_329 : decode cX8_next 329 = .ok (.putfield 193, 3) := by decide +kernel
theorem dX8_next_332 : decode cX8_next 332 = .ok (.aload_n 0, 1) := by decide +kernel
theorem dX8_next_333 : decode cX8_next 333 = .ok (.iload_n 1, 1) := by decide +kernel
theorem dX8_next_334 : decode cX8_next 334 = .ok (.putfield 190, 3) := by decide +kernel
theorem dX8_next_337 : decode cX8_next 337 = .ok (.aload_n 0, 1) := by decide +kernel
theorem dX8_next_338 : decode cX8_next 338 = .ok (.dup, 1) := by decide +kernel
theorem dX8_next_339 : decode cX8_next 339 = .ok (.getfield 171, 3) := by decide +kernel
theorem dX8_next_342 : decode cX8_next 342 = .ok (.iconst 1, 1) := by decide +kernel
theorem dX8_next_343 : decode cX8_next 343 = .ok (.iadd, 1) := by decide +kernel
theorem dX8_next_344 : decode cX8_next 344 = .ok (.putfield 171, 3) := by decide +kernel
theorem dX8_next_347 : decode cX8_next 347 = .ok (.iload_n 1, 1) := by decide +kernel
theorem dX8_next_348 : decode cX8_next 348 = .ok (.bipush 60, 2) := by decide +kernel
theorem dX8_next_350 : decode cX8_next 350 = .ok (.if_icmp .eq 35, 3) := by decide +kernel
theorem dX8_next_353 : decode cX8_next 353 = .ok (.iload_n 1, 1) := by decide +kernel
theorem dX8_next_354 : decode cX8_next 354 = .ok (.bipush 62, 2) := by decide +kernel
theorem dX8_next_356 : decode cX8_next 356 = .ok (.if_icmp .eq 29, 3) := by decide +kernel
theorem dX8_next_359 : decode cX8_next 359 = .ok (.iload_n 1, 1) := by decide +kernel
theorem dX8_next_360 : decode cX8_next 360 = .ok (.bipush 61, 2) := by decide +kernel
theorem dX8_next_362 : decode cX8_next 362 = .ok (.if_icmp .eq 23, 3) := by decide +kernel
theorem dX8_next_365 : decode cX8_next 365 = .ok (.iload_n 1, 1) := by decide +kernel
theorem dX8_next_366 : decode cX8_next 366 = .ok (.bipush 40, 2) := by decide +kernel
theorem dX8_next_368 : decode cX8_next 368 = .ok (.if_icmp .eq 17, 3) := by decide +kernel
theorem dX8_next_371 : decode cX8_next 371 = .ok (.iload_n 1, 1) := by decide +kernel
theorem dX8_next_372 : decode cX8_next 372 = .ok (.bipush 41, 2) := by decide +kernel
theorem dX8_next_374 : decode cX8_next 374 = .ok (.if_icmp .eq 11, 3) := by decide +kernel
theorem dX8_next_377 : decode cX8_next 377 = .ok (.aload_n 0, 1) := by decide +kernel
theorem dX8_next_378 : decode cX8_next 378 = .ok (.aload_n 0, 1) := by decide +kernel
theorem dX8_next_379 : decode cX8_next 379 = .ok (.getfield 174, 3) := by decide +kernel
theorem dX8_next_382 : decode cX8_next 382 = .ok (.invokevirtual 204, 3) := by decide +kernel
theorem dX8_next_385 : decode cX8_next 385 = .ok (.return_, 1) := by decide +kernel
theorem dX8_emit_0 : decode cX8_emit 0 = .ok (.sipush 4000, 3) := by decide +kernel
theorem dX8_emit_3 : decode cX8_emit 3 = .ok (.aload_n 0, 1) := by decide +kernel
theorem dX8_emit_4 : decode cX8_emit 4 = .ok (.getfield 48, 3) := by decide +kernel
theorem dX8_emit_7 : decode cX8_emit 7 = .ok (.bipush 10, 2) := by decide +kernel
theorem dX8_emit_9 : decode cX8_emit 9 = .ok (.iaload, 1) := by decide +kernel
theorem dX8_emit_10 : decode cX8_emit 10 = .ok (.iadd, 1) := by decide +kernel
theorem dX8_emit_11 : decode cX8_emit 11 = .ok (.istore_n 3, 1) := by decide +kernel
theorem dX8_emit_12 : decode cX8_emit 12 = .ok (.aload_n 0, 1) := by decide +kernel
theorem dX8_emit_13 : decode cX8_emit 13 = .ok (.getfield 42, 3) := by decide +kernel
theorem dX8_emit_16 : decode cX8_emit 16 = .ok (.iload_n 3, 1) := by decide +kernel
theorem dX8_emit_17 : decode cX8_emit 17 = .ok (.iload_n 1, 1) := by decide +kernel
theorem dX8_emit_18 : decode cX8_emit 18 = .ok (.iastore, 1) := by decide +kernel
theorem dX8_emit_19 : decode cX8_emit 19 = .ok (.aload_n 0, 1) := by decide +kernel
theorem dX8_emit_20 : decode cX8_emit 20 = .ok (.getfield 45, 3) := by decide +kernel
theorem dX8_emit_23 : decode cX8_emit 23 = .ok (.iload_n 3, 1) := by decide +kernel
theorem dX8_emit_24 : decode cX8_emit 24 = .ok (.iload_n 2, 1) := by decide +kernel
theorem dX8_emit_25 : decode cX8_emit 25 = .ok (.iastore, 1) := by decide +kernel
theorem dX8_emit_26 : decode cX8_emit 26 = .ok (.aload_n 0, 1) := by decide +kernel
theorem dX8_emit_27 : decode cX8_emit 27 = .ok (.getfield 48, 3) := by decide +kernel
theorem dX8_emit_30 : decode cX8_emit 30 = .ok (.bipush 10, 2) := by decide +kernel
theorem dX8_emit_32 : decode cX8_emit 32 = .ok (.dup2, 1) := by decide +kernel
theorem dX8_emit_33 : decode cX8_emit 33 = .ok (.iaload, 1) := by decide +kernel
theorem dX8_emit_34 : decode cX8_emit 34 = .ok (.iconst 1, 1) := by decide +kernel
theorem dX8_emit_35 : decode cX8_emit 35 = .ok (.iadd, 1) := by decide +kernel
theorem dX8_emit_36 : decode cX8_emit 36 = .ok (.iastore, 1) := by decide +kernel
theorem dX8_emit_37 : decode cX8_emit 37 = .ok (.return_, 1) := by decide +kernel
theorem dX8_is_0 : decode cX8_is 0 = .ok (.aload_n 0, 1) := by decide +kernel
theorem dX8_is_1 : decode cX8_is 1 = .ok (.getfield 168, 3) := by decide +kernel
theorem dX8_is_4 : decode cX8_is 4 = .ok (.ifCond .ge 23, 3) := by decide +kernel
theorem dX8_is_7 : decode cX8_is 7 = .ok (.aload_n 0, 1) := by decide +kernel
theorem dX8_is_8 : decode cX8_is 8 = .ok (.getfield 193, 3) := by decide +kernel
theorem dX8_is_11 : decode cX8_is 11 = .ok (.iload_n 1, 1) := by decide +kernel
theorem dX8_is_12 : decode cX8_is 12 = .ok (.if_icmp .ne 15, 3) := by decide +kernel
theorem dX8_is_15 : decode cX8_is 15 = .ok (.aload_n 0, 1) := by decide +kernel
theorem dX8_is_16 : decode cX8_is 16 = .ok (.getfield 190, 3) := by decide +kernel
theorem dX8_is_19 : decode cX8_is 19 = .ok (.iload_n 2, 1) := by decide +kernel
theorem dX8_is_20 : decode cX8_is 20 = .ok (.if_icmp .ne 7, 3) := by decide +kernel
theorem dX8_is_23 : decode cX8_is 23 = .ok (.iconst 1, 1) := by decide +kernel
theorem dX8_is_24 : decode cX8_is 24 = .ok (.goto 4, 3) := by decide +kernel
theorem dX8_is_27 : decode cX8_is 27 = .ok (.iconst 0, 1) := by decide +kernel
theorem dX8_is_28 : decode cX8_is 28 = .ok (.ireturn, 1) := by decide +kernel
theorem dX8_either_0 : decode cX8_either 0 = .ok (.aload_n 0, 1) := by decide +kernel
theorem dX8_either_1 : decode cX8_either 1 = .ok (.invokevirtual 208, 3) := by decide +kernel
theorem dX8_either_4 : decode cX8_either 4 = .ok (.aload_n 0, 1) := by decide +kernel
theorem dX8_either_5 : decode cX8_either 5 = .ok (.iconst 1, 1) := by decide +kernel
theorem dX8_either_6 : decode cX8_either 6 = .ok (.iconst 1, 1) := by decide +kernel
theorem dX8_either_7 : decode cX8_either 7 = .ok (.invokevirtual 211, 3) := by decide +kernel
theorem dX8_either_10 : decode cX8_either 10 = .ok (.ifCond .eq 28, 3) := by decide +kernel
theorem dX8_either_13 : decode cX8_either 13 = .ok (.aload_n 0, 1) := by decide +kernel
theorem dX8_either_14 : decode cX8_either 14 = .ok (.invokevirtual 215, 3) := by decide +kernel
theorem dX8_either_17 : decode cX8_either 17 = .ok (.aload_n 0, 1) := by decide +kernel
theorem dX8_either_18 : decode cX8_either 18 = .ok (.invokevirtual 208, 3) := by decide +kernel
theorem dX8_either_21 : decode cX8_either 21 = .ok (.aload_n 0, 1) := by decide +kernel
theorem dX8_either_22 : decode cX8_either 22 = .ok (.getfield 168, 3) := by decide +kernel
theorem dX8_either_25 : decode cX8_either 25 = .ok (.ifCond .ge (-21), 3) := by decide +kernel
theorem dX8_either_28 : decode cX8_either 28 = .ok (.aload_n 0, 1) := by decide +kernel
theorem dX8_either_29 : decode cX8_either 29 = .ok (.bipush 16, 2) := by decide +kernel
theorem dX8_either_31 : decode cX8_either 31 = .ok (.iconst 0, 1) := by decide +kernel
theorem dX8_either_32 : decode cX8_either 32 = .ok (.invokevirtual 218, 3) := by decide +kernel
theorem dX8_either_35 : decode cX8_either 35 = .ok (.goto (-31), 3) := by decide +kernel
theorem dX8_either_38 : decode cX8_either 38 = .ok (.return_, 1) := by decide +kernel
theorem dX8_both_0 : decode cX8_both 0 = .ok (.aload_n 0, 1) := by decide +kernel
theorem dX8_both_1 : decode cX8_both 1 = .ok (.invokevirtual 222, 3) := by decide +kernel
theorem dX8_both_4 : decode cX8_both 4 = .ok (.aload_n 0, 1) := by decide +kernel
theorem dX8_both_5 : decode cX8_both 5 = .ok (.iconst 1, 1) := by decide +kernel
theorem dX8_both_6 : decode cX8_both 6 = .ok (.iconst 2, 1) := by decide +kernel
theorem dX8_both_7 : decode cX8_both 7 = .ok (.invokevirtual 211, 3) := by decide +kernel
theorem dX8_both_10 : decode cX8_both 10 = .ok (.ifCond .eq 28, 3) := by decide +kernel
theorem dX8_both_13 : decode cX8_both 13 = .ok (.aload_n 0, 1) := by decide +kernel
theorem dX8_both_14 : decode cX8_both 14 = .ok (.invokevirtual 215, 3) := by decide +kernel
theorem dX8_both_17 : decode cX8_both 17 = .ok (.aload_n 0, 1) := by decide +kernel
theorem dX8_both_18 : decode cX8_both 18 = .ok (.invokevirtual 222, 3) := by decide +kernel
theorem dX8_both_21 : decode cX8_both 21 = .ok (.aload_n 0, 1) := by decide +kernel
theorem dX8_both_22 : decode cX8_both 22 = .ok (.getfield 168, 3) := by decide +kernel
theorem dX8_both_25 : decode cX8_both 25 = .ok (.ifCond .ge (-21), 3) := by decide +kernel
theorem dX8_both_28 : decode cX8_both 28 = .ok (.aload_n 0, 1) := by decide +kernel
theorem dX8_both_29 : decode cX8_both 29 = .ok (.bipush 15, 2) := by decide +kernel
theorem dX8_both_31 : decode cX8_both 31 = .ok (.iconst 0, 1) := by decide +kernel
theorem dX8_both_32 : decode cX8_both 32 = .ok (.invokevirtual 218, 3) := by decide +kernel
theorem dX8_both_35 : decode cX8_both 35 = .ok (.goto (-31), 3) := by decide +kernel
theorem dX8_both_38 : decode cX8_both 38 = .ok (.return_, 1) := by decide +kernel
theorem dX8_part_0 : decode cX8_part 0 = .ok (.aload_n 0, 1) := by decide +kernel
theorem dX8_part_1 : decode cX8_part 1 = .ok (.getfield 168, 3) := by decide +kernel
theorem dX8_part_4 : decode cX8_part 4 = .ok (.ifCond .lt 4, 3) := by decide +kernel
theorem dX8_part_7 : decode cX8_part 7 = .ok (.return_, 1) := by decide +kernel
theorem dX8_part_8 : decode cX8_part 8 = .ok (.aload_n 0, 1) := by decide +kernel
theorem dX8_part_9 : decode cX8_part 9 = .ok (.iconst 1, 1) := by decide +kernel
theorem dX8_part_10 : decode cX8_part 10 = .ok (.iconst 3, 1) := by decide +kernel
theorem dX8_part_11 : decode cX8_part 11 = .ok (.invokevirtual 211, 3) := by decide +kernel
theorem dX8_part_14 : decode cX8_part 14 = .ok (.ifCond .ne 13, 3) := by decide +kernel
theorem dX8_part_17 : decode cX8_part 17 = .ok (.aload_n 0, 1) := by decide +kernel
theorem dX8_part_18 : decode cX8_part 18 = .ok (.iconst 3, 1) := by decide +kernel
theorem dX8_part_19 : decode cX8_part 19 = .ok (.bipush 40, 2) := by decide +kernel
theorem dX8_part_21 : decode cX8_part 21 = .ok (.invokevirtual 211, 3) := by decide +kernel
theorem dX8_part_24 : decode cX8_part 24 = .ok (.ifCond .eq 122, 3) := by decide +kernel
theorem dX8_part_27 : decode cX8_part 27 = .ok (.aload_n 0, 1) := by decide +kernel
theorem dX8_part_28 : decode cX8_part 28 = .ok (.getfield 225, 3) := by decide +kernel
theorem dX8_part_31 : decode cX8_part 31 = .ok (.bipush 20, 2) := by decide +kernel
theorem dX8_part_33 : decode cX8_part 33 = .ok (.if_icmp .ne 12, 3) := by decide +kernel
theorem dX8_part_36 : decode cX8_part 36 = .ok (.aload_n 0, 1) := by decide +kernel
theorem dX8_part_37 : decode cX8_part 37 = .ok (.aload_n 0, 1) := by decide +kernel
theorem dX8_part_38 : decode cX8_part 38 = .ok (.getfield 174, 3) := by decide +kernel
theorem dX8_part_41 : decode cX8_part 41 = .ok (.invokevirtual 204, 3) := by decide +kernel
theorem dX8_part_44 : decode cX8_part 44 = .ok (.return_, 1) := by decide +kernel
theorem dX8_part_45 : decode cX8_part 45 = .ok (.aload_n 0, 1) := by decide +kernel
theorem dX8_part_46 : decode cX8_part 46 = .ok (.getfield 193, 3) := by decide +kernel
theorem dX8_part_49 : decode cX8_part 49 = .ok (.iconst 1, 1) := by decide +kernel
theorem dX8_part_50 : decode cX8_part 50 = .ok (.if_icmp .ne 7, 3) := by decide +kernel
theorem dX8_part_53 : decode cX8_part 53 = .ok (.iconst 1, 1) := by decide +kernel
theorem dX8_part_54 : decode cX8_part 54 = .ok (.goto 4, 3) := by decide +kernel
theorem dX8_part_57 : decode cX8_part 57 = .ok (.iconst 0, 1) := by decide +kernel
theorem dX8_part_58 : decode cX8_part 58 = .ok (.istore_n 1, 1) := by decide +kernel
theorem dX8_part_59 : decode cX8_part 59 = .ok (.aload_n 0, 1) := by decide +kernel
theorem dX8_part_60 : decode cX8_part 60 = .ok (.dup, 1) := by decide +kernel
theorem dX8_part_61 : decode cX8_part 61 = .ok (.getfield 225, 3) := by decide +kernel
theorem dX8_part_64 : decode cX8_part 64 = .ok (.iconst 1, 1) := by decide +kernel
theorem dX8_part_65 : decode cX8_part 65 = .ok (.iadd, 1) := by decide +kernel
theorem dX8_part_66 : decode cX8_part 66 = .ok (.putfield 225, 3) := by decide +kernel
theorem dX8_part_69 : decode cX8_part 69 = .ok (.aload_n 0, 1) := by decide +kernel
theorem dX8_part_70 : decode cX8_part 70 = .ok (.invokevirtual 215, 3) := by decide +kernel
theorem dX8_part_73 : decode cX8_part 73 = .ok (.iload_n 1, 1) := by decide +kernel
theorem dX8_part_74 : decode cX8_part 74 = .ok (.ifCond .eq 10, 3) := by decide +kernel
theorem dX8_part_77 : decode cX8_part 77 = .ok (.aload_n 0, 1) := by decide +kernel
theorem dX8_part_78 : decode cX8_part 78 = .ok (.invokevirtual 222, 3) := by decide +kernel
theorem dX8_part_81 : decode cX8_part 81 = .ok (.goto 7, 3) := by decide +kernel
theorem dX8_part_84 : decode cX8_part 84 = .ok (.aload_n 0, 1) := by decide +kernel
theorem dX8_part_85 : decode cX8_part 85 = .ok (.invokevirtual 228, 3) := by decide +kernel
theorem dX8_part_88 : decode cX8_part 88 = .ok (.aload_n 0, 1) := by decide +kernel
theorem dX8_part_89 : decode cX8_part 89 = .ok (.getfield 168, 3) := by decide +kernel
theorem dX8_part_92 : decode cX8_part 92 = .ok (.ifCond .lt 4, 3) := by decide +kernel
theorem dX8_part_95 : decode cX8_part 95 = .ok (.return_, 1) := by decide +kernel
theorem dX8_part_96 : decode cX8_part 96 = .ok (.aload_n 0, 1) := by decide +kernel
theorem dX8_part_97 : decode cX8_part 97 = .ok (.dup, 1) := by decide +kernel
theorem dX8_part_98 : decode cX8_part 98 = .ok (.getfield 225, 3) := by decide +kernel
theorem dX8_part_101 : decode cX8_part 101 = .ok (.iconst 1, 1) := by decide +kernel
theorem dX8_part_102 : decode cX8_part 102 = .ok (.isub, 1) := by decide +kernel
theorem dX8_part_103 : decode cX8_part 103 = .ok (.putfield 225, 3) := by decide +kernel
theorem dX8_part_106 : decode cX8_part 106 = .ok (.iload_n 1, 1) := by decide +kernel
theorem dX8_part_107 : decode cX8_part 107 = .ok (.ifCond .eq 13, 3) := by decide +kernel
theorem dX8_part_110 : decode cX8_part 110 = .ok (.aload_n 0, 1) := by decide +kernel
theorem dX8_part_111 : decode cX8_part 111 = .ok (.bipush 14, 2) := by decide +kernel
theorem dX8_part_113 : decode cX8_part 113 = .ok (.iconst 0, 1) := by decide +kernel
theorem dX8_part_114 : decode cX8_part 114 = .ok (.invokevirtual 218, 3) := by decide +kernel
theorem dX8_part_117 : decode cX8_part 117 = .ok (.goto 28, 3) := by decide +kernel
theorem dX8_part_120 : decode cX8_part 120 = .ok (.aload_n 0, 1) := by decide +kernel
theorem dX8_part_121 : decode cX8_part 121 = .ok (.iconst 3, 1) := by decide +kernel
theorem dX8_part_122 : decode cX8_part 122 = .ok (.bipush 41, 2) := by decide +kernel
theorem dX8_part_124 : decode cX8_part 124 = .ok (.invokevirtual 211, 3) := by decide +kernel
theorem dX8_part_127 : decode cX8_part 127 = .ok (.ifCond .eq 10, 3) := by decide +kernel
theorem dX8_part_130 : decode cX8_part 130 = .ok (.aload_n 0, 1) := by decide +kernel
theorem dX8_part_131 : decode cX8_part 131 = .ok (.invokevirtual 215, 3) := by decide +kernel
theorem dX8_part_134 : decode cX8_part 134 = .ok (.goto 11, 3) := by decide +kernel
theorem dX8_part_137 : decode cX8_part 137 = .ok (.aload_n 0, 1) := by decide +kernel
theorem dX8_part_138 : decode cX8_part 138 = .ok (.aload_n 0, 1) := by decide +kernel
theorem dX8_part_139 : decode cX8_part 139 = .ok (.getfield 174, 3) := by decide +kernel
theorem dX8_part_142 : decode cX8_part 142 = .ok (.invokevirtual 204, 3) := by decide +kernel
theorem dX8_part_145 : decode cX8_part 145 = .ok (.return_, 1) := by decide +kernel
theorem dX8_part_146 : decode cX8_part 146 = .ok (.aload_n 0, 1) := by decide +kernel
theorem dX8_part_147 : decode cX8_part 147 = .ok (.getfield 193, 3) := by decide +kernel
theorem dX8_part_150 : decode cX8_part 150 = .ok (.iconst 1, 1) := by decide +kernel
theorem dX8_part_151 : decode cX8_part 151 = .ok (.if_icmp .ne 11, 3) := by decide +kernel
theorem dX8_part_154 : decode cX8_part 154 = .ok (.aload_n 0, 1) := by decide +kernel
theorem dX8_part_155 : decode cX8_part 155 = .ok (.getfield 190, 3) := by decide +kernel
theorem dX8_part_158 : decode cX8_part 158 = .ok (.iconst 4, 1) := by decide +kernel
theorem dX8_part_159 : decode cX8_part 159 = .ok (.if_icmp .ge 12, 3) := by decide +kernel
theorem dX8_part_162 : decode cX8_part 162 = .ok (.aload_n 0, 1) := by decide +kernel
theorem dX8_part_163 : decode cX8_part 163 = .ok (.aload_n 0, 1) := by decide +kernel
theorem dX8_part_164 : decode cX8_part 164 = .ok (.getfield 174, 3) := by decide +kernel
theorem dX8_part_167 : decode cX8_part 167 = .ok (.invokevirtual 204, 3) := by decide +kernel
theorem dX8_part_170 : decode cX8_part 170 = .ok (.return_, 1) := by decide +kernel
theorem dX8_part_171 : decode cX8_part 171 = .ok (.aload_n 0, 1) := by decide +kernel
theorem dX8_part_172 : decode cX8_part 172 = .ok (.aload_n 0, 1) := by decide +kernel
theorem dX8_part_173 : decode cX8_part 173 = .ok (.getfield 190, 3) := by decide +kernel
theorem dX8_part_176 : decode cX8_part 176 = .ok (.invokevirtual 231, 3) := by decide +kernel
theorem dX8_part_179 : decode cX8_part 179 = .ok (.return_, 1) := by decide +kernel
theorem dX8_test_0 : decode cX8_test 0 = .ok (.iload_n 1, 1) := by decide +kernel
theorem dX8_test_1 : decode cX8_test 1 = .ok (.bipush 8, 2) := by decide +kernel
theorem dX8_test_3 : decode cX8_test 3 = .ok (.if_icmp .ne 8, 3) := by decide +kernel
theorem dX8_test_6 : decode cX8_test 6 = .ok (.bipush 12, 2) := by decide +kernel
theorem dX8_test_8 : decode cX8_test 8 = .ok (.goto 19, 3) := by decide +kernel
theorem dX8_test_11 : decode cX8_test 11 = .ok (.iload_n 1, 1) := by decide +kernel
theorem dX8_test_12 : decode cX8_test 12 = .ok (.bipush 9, 2) := by decide +kernel
theorem dX8_test_14 : decode cX8_test 14 = .ok (.if_icmp .ne 8, 3) := by decide +kernel
theorem dX8_test_17 : decode cX8_test 17 = .ok (.bipush 13, 2) := by decide +kernel
theorem dX8_test_19 : decode cX8_test 19 = .ok (.goto 8, 3) := by decide +kernel
theorem dX8_test_22 : decode cX8_test 22 = .ok (.iconst 3, 1) := by decide +kernel
theorem dX8_test_23 : decode cX8_test 23 = .ok (.iload_n 1, 1) := by decide +kernel
theorem dX8_test_24 : decode cX8_test 24 = .ok (.iconst 4, 1) := by decide +kernel
theorem dX8_test_25 : decode cX8_test 25 = .ok (.isub, 1) := by decide +kernel
theorem dX8_test_26 : decode cX8_test 26 = .ok (.imul, 1) := by decide +kernel
theorem dX8_test_27 : decode cX8_test 27 = .ok (.istore_n 2, 1) := by decide +kernel
theorem dX8_test_28 : decode cX8_test 28 = .ok (.aload_n 0, 1) := by decide +kernel
theorem dX8_test_29 : decode cX8_test 29 = .ok (.invokevirtual 215, 3) := by decide +kernel
theorem dX8_test_32 : decode cX8_test 32 = .ok (.aload_n 0, 1) := by decide +kernel
theorem dX8_test_33 : decode cX8_test 33 = .ok (.getfield 168, 3) := by decide +kernel
theorem dX8_test_36 : decode cX8_test 36 = .ok (.ifCond .lt 4, 3) := by decide +kernel
theorem dX8_test_39 : decode cX8_test 39 = .ok (.return_, 1) := by decide +kernel
theorem dX8_test_40 : decode cX8_test 40 = .ok (.iload_n 1, 1) := by decide +kernel
theorem dX8_test_41 : decode cX8_test 41 = .ok (.bipush 8, 2) := by decide +kernel
theorem dX8_test_43 : decode cX8_test 43 = .ok (.if_icmp .ge 89, 3) := by decide +kernel
theorem dX8_test_46 : decode cX8_test 46 = .ok (.aload_n 0, 1) := by decide +kernel
theorem dX8_test_47 : decode cX8_test 47 = .ok (.getfield 193, 3) := by decide +kernel
theorem dX8_test_50 : decode cX8_test 50 = .ok (.iconst 3, 1) := by decide +kernel
theorem dX8_test_51 : decode cX8_test 51 = .ok (.if_icmp .ne 30, 3) := by decide +kernel
theorem dX8_test_54 : decode cX8_test 54 = .ok (.aload_n 0, 1) := by decide +kernel
theorem dX8_test_55 : decode cX8_test 55 = .ok (.getfield 190, 3) := by decide +kernel
theorem dX8_test_58 : decode cX8_test 58 = .ok (.bipush 60, 2) := by decide +kernel
theorem dX8_test_60 : decode cX8_test 60 = .ok (.if_icmp .eq 30, 3) := by decide +kernel
theorem dX8_test_63 : decode cX8_test 63 = .ok (.aload_n 0, 1) := by decide +kernel
theorem dX8_test_64 : decode cX8_test 64 = .ok (.getfield 190, 3) := by decide +kernel
theorem dX8_test_67 : decode cX8_test 67 = .ok (.bipush 62, 2) := by decide +kernel
theorem dX8_test_69 : decode cX8_test 69 = .ok (.if_icmp .eq 21, 3) := by decide +kernel
theorem dX8_test_72 : decode cX8_test 72 = .ok (.aload_n 0, 1) := by decide +kernel
theorem dX8_test_73 : decode cX8_test 73 = .ok (.getfield 190, 3) := by decide +kernel
theorem dX8_test_76 : decode cX8_test 76 = .ok (.bipush 61, 2) := by decide +kernel
theorem dX8_test_78 : decode cX8_test 78 = .ok (.if_icmp .eq 12, 3) := by decide +kernel
theorem dX8_test_81 : decode cX8_test 81 = .ok (.aload_n 0, 1) := by decide +kernel
theorem dX8_test_82 : decode cX8_test 82 = .ok (.aload_n 0, 1) := by decide +kernel
theorem dX8_test_83 : decode cX8_test 83 = .ok (.getfield 174, 3) := by decide +kernel
theorem dX8_test_86 : decode cX8_test 86 = .ok (.invokevirtual 204, 3) := by decide +kernel
theorem dX8_test_89 : decode cX8_test 89 = .ok (.return_, 1) := by decide +kernel
theorem dX8_test_90 : decode cX8_test 90 = .ok (.iload_n 2, 1) := by decide +kernel
theorem dX8_test_91 : decode cX8_test 91 = .ok (.aload_n 0, 1) := by decide +kernel
theorem dX8_test_92 : decode cX8_test 92 = .ok (.getfield 190, 3) := by decide +kernel
theorem dX8_test_95 : decode cX8_test 95 = .ok (.bipush 60, 2) := by decide +kernel
theorem dX8_test_97 : decode cX8_test 97 = .ok (.if_icmp .ne 7, 3) := by decide +kernel
theorem dX8_test_100 : decode cX8_test 100 = .ok (.iconst 0, 1) := by decide +kernel
theorem dX8_test_101 : decode cX8_test 101 = .ok (.goto 17, 3) := by decide +kernel
theorem dX8_test_104 : decode cX8_test 104 = .ok (.aload_n 0, 1) := by decide +kernel
theorem dX8_test_105 : decode cX8_test 105 = .ok (.getfield 190, 3) := by decide +kernel
theorem dX8_test_108 : decode cX8_test 108 = .ok (.bipush 62, 2) := by decide +kernel
theorem dX8_test_110 : decode cX8_test 110 = .ok (.if_icmp .ne 7, 3) := by decide +kernel
theorem dX8_test_113 : decode cX8_test 113 = .ok (.iconst 1, 1) := by decide +kernel
theorem dX8_test_114 : decode cX8_test 114 = .ok (.goto 4, 3) := by decide +kernel
theorem dX8_test_117 : decode cX8_test 117 = .ok (.iconst 2, 1) := by decide +kernel
theorem dX8_test_118 : decode cX8_test 118 = .ok (.iadd, 1) := by decide +kernel
theorem dX8_test_119 : decode cX8_test 119 = .ok (.istore_n 2, 1) := by decide +kernel
theorem dX8_test_120 : decode cX8_test 120 = .ok (.aload_n 0, 1) := by decide +kernel
theorem dX8_test_121 : decode cX8_test 121 = .ok (.invokevirtual 215, 3) := by decide +kernel
theorem dX8_test_124 : decode cX8_test 124 = .ok (.aload_n 0, 1) := by decide +kernel
theorem dX8_test_125 : decode cX8_test 125 = .ok (.getfield 168, 3) := by decide +kernel
theorem dX8_test_128 : decode cX8_test 128 = .ok (.ifCond .lt 4, 3) := by decide +kernel
theorem dX8_test_131 : decode cX8_test 131 = .ok (.return_, 1) := by decide +kernel
theorem dX8_test_132 : decode cX8_test 132 = .ok (.aload_n 0, 1) := by decide +kernel
theorem dX8_test_133 : decode cX8_test 133 = .ok (.getfield 193, 3) := by decide +kernel
theorem dX8_test_136 : decode cX8_test 136 = .ok (.iconst 2, 1) := by decide +kernel
theorem dX8_test_137 : decode cX8_test 137 = .ok (.if_icmp .ne 37, 3) := by decide +kernel
theorem dX8_test_140 : decode cX8_test 140 = .ok (.iload_n 2, 1) := by decide +kernel
theorem dX8_test_141 : decode cX8_test 141 = .ok (.bipush 12, 2) := by decide +kernel
theorem dX8_test_143 : decode cX8_test 143 = .ok (.if_icmp .ne 14, 3) := by decide +kernel
theorem dX8_test_146 : decode cX8_test 146 = .ok (.aload_n 0, 1) := by decide +kernel
theorem dX8_test_147 : decode cX8_test 147 = .ok (.aload_n 0, 1) := by decide +kernel
theorem dX8_test_148 : decode cX8_test 148 = .ok (.getfield 190, 3) := by decide +kernel
theorem dX8_test_151 : decode cX8_test 151 = .ok (.invokevirtual 234, 3) := by decide +kernel
theorem dX8_test_154 : decode cX8_test 154 = .ok (.ifCond .ne 20, 3) := by decide +kernel
theorem dX8_test_157 : decode cX8_test 157 = .ok (.iload_n 2, 1) := by decide +kernel
theorem dX8_test_158 : decode cX8_test 158 = .ok (.bipush 13, 2) := by decide +kernel
theorem dX8_test_160 : decode cX8_test 160 = .ok (.if_icmp .ne 23, 3) := by decide +kernel
theorem dX8_test_163 : decode cX8_test 163 = .ok (.aload_n 0, 1) := by decide +kernel
theorem dX8_test_164 : decode cX8_test 164 = .ok (.aload_n 0, 1) := by decide +kernel
theorem dX8_test_165 : decode cX8_test 165 = .ok (.getfield 190, 3) := by decide +kernel
theorem dX8_test_168 : decode cX8_test 168 = .ok (.invokevirtual 237, 3) := by decide +kernel
theorem dX8_test_171 : decode cX8_test 171 = .ok (.ifCond .eq 12, 3) := by decide +kernel
theorem dX8_test_174 : decode cX8_test 174 = .ok (.aload_n 0, 1) := by decide +kernel
theorem dX8_test_175 : decode cX8_test 175 = .ok (.aload_n 0, 1) := by decide +kernel
theorem dX8_test_176 : decode cX8_test 176 = .ok (.getfield 174, 3) := by decide +kernel
theorem dX8_test_179 : decode cX8_test 179 = .ok (.invokevirtual 204, 3) := by decide +kernel
theorem dX8_test_182 : decode cX8_test 182 = .ok (.return_, 1) := by decide +kernel
theorem dX8_test_183 : decode cX8_test 183 = .ok (.aload_n 0, 1) := by decide +kernel
theorem dX8_test_184 : decode cX8_test 184 = .ok (.iload_n 2, 1) := by decide +kernel
theorem dX8_test_185 : decode cX8_test 185 = .ok (.aload_n 0, 1) := by decide +kernel
theorem dX8_test_186 : decode cX8_test 186 = .ok (.getfield 190, 3) := by decide +kernel
theorem dX8_test_189 : decode cX8_test 189 = .ok (.invokevirtual 218, 3) := by decide +kernel
theorem dX8_test_192 : decode cX8_test 192 = .ok (.aload_n 0, 1) := by decide +kernel
theorem dX8_test_193 : decode cX8_test 193 = .ok (.invokevirtual 215, 3) := by decide +kernel
theorem dX8_test_196 : decode cX8_test 196 = .ok (.return_, 1) := by decide +kernel
theorem dX8_names_0 : decode cX8_names 0 = .ok (.iconst 0, 1) := by decide +kernel
theorem dX8_names_1 : decode cX8_names 1 = .ok (.istore_n 2, 1) := by decide +kernel
theorem dX8_names_2 : decode cX8_names 2 = .ok (.iconst 0, 1) := by decide +kernel
theorem dX8_names_3 : decode cX8_names 3 = .ok (.istore_n 3, 1) := by decide +kernel
theorem dX8_names_4 : decode cX8_names 4 = .ok (.iload_n 3, 1) := by decide +kernel
theorem dX8_names_5 : decode cX8_names 5 = .ok (.aload_n 0, 1) := by decide +kernel
theorem dX8_names_6 : decode cX8_names 6 = .ok (.getfield 48, 3) := by decide +kernel
theorem dX8_names_9 : decode cX8_names 9 = .ok (.iload_n 1, 1) := by decide +kernel
theorem dX8_names_10 : decode cX8_names 10 = .ok (.iaload, 1) := by decide +kernel
theorem dX8_names_11 : decode cX8_names 11 = .ok (.if_icmp .ge 43, 3) := by decide +kernel
theorem dX8_names_14 : decode cX8_names 14 = .ok (.aload_n 0, 1) := by decide +kernel
theorem dX8_names_15 : decode cX8_names 15 = .ok (.getfield 42, 3) := by decide +kernel
theorem dX8_names_18 : decode cX8_names 18 = .ok (.sipush 400, 3) := by decide +kernel
theorem dX8_names_21 : decode cX8_names 21 = .ok (.iload_n 1, 1) := by decide +kernel
theorem dX8_names_22 : decode cX8_names 22 = .ok (.imul, 1) := by decide +kernel
theorem dX8_names_23 : decode cX8_names 23 = .ok (.iload_n 3, 1) := by decide +kernel
theorem dX8_names_24 : decode cX8_names 24 = .ok (.iadd, 1) := by decide +kernel
theorem dX8_names_25 : decode cX8_names 25 = .ok (.iaload, 1) := by decide +kernel
theorem dX8_names_26 : decode cX8_names 26 = .ok (.bipush 12, 2) := by decide +kernel
theorem dX8_names_28 : decode cX8_names 28 = .ok (.if_icmp .ne 20, 3) := by decide +kernel
theorem dX8_names_31 : decode cX8_names 31 = .ok (.iload_n 2, 1) := by decide +kernel
theorem dX8_names_32 : decode cX8_names 32 = .ok (.iconst 1, 1) := by decide +kernel
theorem dX8_names_33 : decode cX8_names 33 = .ok (.aload_n 0, 1) := by decide +kernel
theorem dX8_names_34 : decode cX8_names 34 = .ok (.getfield 45, 3) := by decide +kernel
theorem dX8_names_37 : decode cX8_names 37 = .ok (.sipush 400, 3) := by decide +kernel
theorem dX8_names_40 : decode cX8_names 40 = .ok (.iload_n 1, 1) := by decide +kernel
theorem dX8_names_41 : decode cX8_names 41 = .ok (.imul, 1) := by decide +kernel
theorem dX8_names_42 : decode cX8_names 42 = .ok (.iload_n 3, 1) := by decide +kernel
theorem dX8_names_43 : decode cX8_names 43 = .ok (.iadd, 1) := by decide +kernel
theorem dX8_names_44 : decode cX8_names 44 = .ok (.iaload, 1) := by decide +kernel
theorem dX8_names_45 : decode cX8_names 45 = .ok (.ishl, 1) := by decide +kernel
theorem dX8_names_46 : decode cX8_names 46 = .ok (.ior, 1) := by decide +kernel
theorem dX8_names_47 : decode cX8_names 47 = .ok (.istore_n 2, 1) := by decide +kernel
theorem dX8_names_48 : decode cX8_names 48 = .ok (.iinc 3 1, 3) := by decide +kernel
theorem dX8_names_51 : decode cX8_names 51 = .ok (.goto (-47), 3) := by decide +kernel
theorem dX8_names_54 : decode cX8_names 54 = .ok (.iload_n 2, 1) := by decide +kernel
theorem dX8_names_55 : decode cX8_names 55 = .ok (.ireturn, 1) := by decide +kernel
theorem dX8_ring_0 : decode cX8_ring 0 = .ok (.iconst 0, 1) := by decide +kernel
theorem dX8_ring_1 : decode cX8_ring 1 = .ok (.istore_n 2, 1) := by decide +kernel
theorem dX8_ring_2 : decode cX8_ring 2 = .ok (.iload_n 2, 1) := by decide +kernel
theorem dX8_ring_3 : decode cX8_ring 3 = .ok (.aload_n 0, 1) := by decide +kernel
theorem dX8_ring_4 : decode cX8_ring 4 = .ok (.getfield 120, 3) := by decide +kernel
theorem dX8_ring_7 : decode cX8_ring 7 = .ok (.if_icmp .ge 47, 3) := by decide +kernel
theorem dX8_ring_10 : decode cX8_ring 10 = .ok (.aload_n 0, 1) := by decide +kernel
theorem dX8_ring_11 : decode cX8_ring 11 = .ok (.getfield 77, 3) := by decide +kernel
theorem dX8_ring_14 : decode cX8_ring 14 = .ok (.iload_n 2, 1) := by decide +kernel
theorem dX8_ring_15 : decode cX8_ring 15 = .ok (.iload_n 2, 1) := by decide +kernel
theorem dX8_ring_16 : decode cX8_ring 16 = .ok (.iload_n 1, 1) := by decide +kernel
theorem dX8_ring_17 : decode cX8_ring 17 = .ok (.if_icmp .ne 12, 3) := by decide +kernel
theorem dX8_ring_20 : decode cX8_ring 20 = .ok (.aload_n 0, 1) := by decide +kernel
theorem dX8_ring_21 : decode cX8_ring 21 = .ok (.bipush 10, 2) := by decide +kernel
theorem dX8_ring_23 : decode cX8_ring 23 = .ok (.invokevirtual 240, 3) := by decide +kernel
theorem dX8_ring_26 : decode cX8_ring 26 = .ok (.goto 21, 3) := by decide +kernel
theorem dX8_ring_29 : decode cX8_ring 29 = .ok (.aload_n 0, 1) := by decide +kernel
theorem dX8_ring_30 : decode cX8_ring 30 = .ok (.getfield 51, 3) := by decide +kernel
theorem dX8_ring_33 : decode cX8_ring 33 = .ok (.iload_n 2, 1) := by decide +kernel
theorem dX8_ring_34 : decode cX8_ring 34 = .ok (.baload, 1) := by decide +kernel
theorem dX8_ring_35 : decode cX8_ring 35 = .ok (.ifCond .eq 11, 3) := by decide +kernel
theorem dX8_ring_38 : decode cX8_ring 38 = .ok (.aload_n 0, 1) := by decide +kernel
theorem dX8_ring_39 : decode cX8_ring 39 = .ok (.iload_n 2, 1) := by decide +kernel
theorem dX8_ring_40 : decode cX8_ring 40 = .ok (.invokevirtual 240, 3) := by decide +kernel
theorem dX8_ring_43 : decode cX8_ring 43 = .ok (.goto 4, 3) := by decide +kernel
theorem dX8_ring_46 : decode cX8_ring 46 = .ok (.iconst 0, 1) := by decide +kernel
theorem dX8_ring_47 : decode cX8_ring 47 = .ok (.iastore, 1) := by decide +kernel
theorem dX8_ring_48 : decode cX8_ring 48 = .ok (.iinc 2 1, 3) := by decide +kernel
theorem dX8_ring_51 : decode cX8_ring 51 = .ok (.goto (-49), 3) := by decide +kernel
theorem dX8_ring_54 : decode cX8_ring 54 = .ok (.iconst 0, 1) := by decide +kernel
theorem dX8_ring_55 : decode cX8_ring 55 = .ok (.istore_n 2, 1) := by decide +kernel
theorem dX8_ring_56 : decode cX8_ring 56 = .ok (.iload_n 2, 1) := by decide +kernel
theorem dX8_ring_57 : decode cX8_ring 57 = .ok (.bipush 10, 2) := by decide +kernel
theorem dX8_ring_59 : decode cX8_ring 59 = .ok (.if_icmp .ge 74, 3) := by decide +kernel
theorem dX8_ring_62 : decode cX8_ring 62 = .ok (.iconst 0, 1) := by decide +kernel
theorem dX8_ring_63 : decode cX8_ring 63 = .ok (.istore_n 3, 1) := by decide +kernel
theorem dX8_ring_64 : decode cX8_ring 64 = .ok (.iload_n 3, 1) := by decide +kernel
theorem dX8_ring_65 : decode cX8_ring 65 = .ok (.aload_n 0, 1) := by decide +kernel
theorem dX8_ring_66 : decode cX8_ring 66 = .ok (.getfield 120, 3) := by decide +kernel
theorem dX8_ring_69 : decode cX8_ring 69 = .ok (.if_icmp .ge 58, 3) := by decide +kernel
theorem dX8_ring_72 : decode cX8_ring 72 = .ok (.iconst 0, 1) := by decide +kernel
theorem dX8_ring_73 : decode cX8_ring 73 = .ok (.istore 4, 2) := by decide +kernel
theorem dX8_ring_75 : decode cX8_ring 75 = .ok (.iload 4, 2) := by decide +kernel
theorem dX8_ring_77 : decode cX8_ring 77 = .ok (.aload_n 0, 1) := by decide +kernel
theorem dX8_ring_78 : decode cX8_ring 78 = .ok (.getfield 120, 3) := by decide +kernel
theorem dX8_ring_81 : decode cX8_ring 81 = .ok (.if_icmp .ge 40, 3) := by decide +kernel
theorem dX8_ring_84 : decode cX8_ring 84 = .ok (.aload_n 0, 1) := by decide +kernel
theorem dX8_ring_85 : decode cX8_ring 85 = .ok (.getfield 77, 3) := by decide +kernel
theorem dX8_ring_88 : decode cX8_ring 88 = .ok (.iload_n 3, 1) := by decide +kernel
theorem dX8_ring_89 : decode cX8_ring 89 = .ok (.iaload, 1) := by decide +kernel
theorem dX8_ring_90 : decode cX8_ring 90 = .ok (.iload 4, 2) := by decide +kernel
theorem dX8_ring_92 : decode cX8_ring 92 = .ok (.ishr, 1) := by decide +kernel
theorem dX8_ring_93 : decode cX8_ring 93 = .ok (.iconst 1, 1) := by decide +kernel
theorem dX8_ring_94 : decode cX8_ring 94 = .ok (.iand, 1) := by decide +kernel
theorem dX8_ring_95 : decode cX8_ring 95 = .ok (.iconst 1, 1) := by decide +kernel
theorem dX8_ring_96 : decode cX8_ring 96 = .ok (.if_icmp .ne 19, 3) := by decide +kernel
theorem dX8_ring_99 : decode cX8_ring 99 = .ok (.aload_n 0, 1) := by decide +kernel
theorem dX8_ring_100 : decode cX8_ring 100 = .ok (.getfield 77, 3) := by decide +kernel
theorem dX8_ring_103 : decode cX8_ring 103 = .ok (.iload_n 3, 1) := by decide +kernel
theorem dX8_ring_104 : decode cX8_ring 104 = .ok (.dup2, 1) := by decide +kernel
theorem dX8_ring_105 : decode cX8_ring 105 = .ok (.iaload, 1) := by decide +kernel
theorem dX8_ring_106 : decode cX8_ring 106 = .ok (.aload_n 0, 1) := by decide +kernel
theorem dX8_ring_107 : decode cX8_ring 107 = .ok (.getfield 77, 3) := by decide +kernel
theorem dX8_ring_110 : decode cX8_ring 110 = .ok (.iload 4, 2) := by decide +kernel
theorem dX8_ring_112 : decode cX8_ring 112 = .ok (.iaload, 1) := by decide +kernel
theorem dX8_ring_113 : decode cX8_ring 113 = .ok (.ior, 1) := by decide +kernel
theorem dX8_ring_114 : decode cX8_ring 114 = .ok (.iastore, 1) := by decide +kernel
theorem dX8_ring_115 : decode cX8_ring 115 = .ok (.iinc 4 1, 3) := by decide +kernel
theorem dX8_ring_118 : decode cX8_ring 118 = .ok (.goto (-43), 3) := by decide +kernel
theorem dX8_ring_121 : decode cX8_ring 121 = .ok (.iinc 3 1, 3) := by decide +kernel
theorem dX8_ring_124 : decode cX8_ring 124 = .ok (.goto (-60), 3) := by decide +kernel
theorem dX8_ring_127 : decode cX8_ring 127 = .ok (.iinc 2 1, 3) := by decide +kernel
theorem dX8_ring_130 : decode cX8_ring 130 = .ok (.goto (-74), 3) := by decide +kernel
theorem dX8_ring_133 : decode cX8_ring 133 = .ok (.iconst 0, 1) := by decide +kernel
theorem dX8_ring_134 : decode cX8_ring 134 = .ok (.istore_n 2, 1) := by decide +kernel
theorem dX8_ring_135 : decode cX8_ring 135 = .ok (.iconst 0, 1) := by decide +kernel
theorem dX8_ring_136 : decode cX8_ring 136 = .ok (.istore_n 3, 1) := by decide +kernel
theorem dX8_ring_137 : decode cX8_ring 137 = .ok (.iload_n 3, 1) := by decide +kernel
theorem dX8_ring_138 : decode cX8_ring 138 = .ok (.aload_n 0, 1) := by decide +kernel
theorem dX8_ring_139 : decode cX8_ring 139 = .ok (.getfield 120, 3) := by decide +kernel
theorem dX8_ring_142 : decode cX8_ring 142 = .ok (.if_icmp .ge 22, 3) := by decide +kernel
theorem dX8_ring_145 : decode cX8_ring 145 = .ok (.iload_n 2, 1) := by decide +kernel
theorem dX8_ring_146 : decode cX8_ring 146 = .ok (.aload_n 0, 1) := by decide +kernel
theorem dX8_ring_147 : decode cX8_ring 147 = .ok (.getfield 77, 3) := by decide +kernel
theorem dX8_ring_150 : decode cX8_ring 150 = .ok (.iload_n 3, 1) := by decide +kernel
theorem dX8_ring_151 : decode cX8_ring 151 = .ok (.iaload, 1) := by decide +kernel
theorem dX8_ring_152 : decode cX8_ring 152 = .ok (.iconst 1, 1) := by decide +kernel
theorem dX8_ring_153 : decode cX8_ring 153 = .ok (.iload_n 3, 1) := by decide +kernel
theorem dX8_ring_154 : decode cX8_ring 154 = .ok (.ishl, 1) := by decide +kernel
theorem dX8_ring_155 : decode cX8_ring 155 = .ok (.iand, 1) := by decide +kernel
theorem dX8_ring_156 : decode cX8_ring 156 = .ok (.ior, 1) := by decide +kernel
theorem dX8_ring_157 : decode cX8_ring 157 = .ok (.istore_n 2, 1) := by decide +kernel
theorem dX8_ring_158 : decode cX8_ring 158 = .ok (.iinc 3 1, 3) := by decide +kernel
theorem dX8_ring_161 : decode cX8_ring 161 = .ok (.goto (-24), 3) := by decide +kernel
theorem dX8_ring_164 : decode cX8_ring 164 = .ok (.iload_n 2, 1) := by decide +kernel
theorem dX8_ring_165 : decode cX8_ring 165 = .ok (.ireturn, 1) := by decide +kernel
theorem dX8_rule_0 : decode cX8_rule 0 = .ok (.aload_n 0, 1) := by decide +kernel
theorem dX8_rule_1 : decode cX8_rule 1 = .ok (.iconst 0, 1) := by decide +kernel
theorem dX8_rule_2 : decode cX8_rule 2 = .ok (.putfield 110, 3) := by decide +kernel
theorem dX8_rule_5 : decode cX8_rule 5 = .ok (.aload_n 0, 1) := by decide +kernel
theorem dX8_rule_6 : decode cX8_rule 6 = .ok (.aload_n 0, 1) := by decide +kernel
theorem dX8_rule_7 : decode cX8_rule 7 = .ok (.getfield 131, 3) := by decide +kernel
theorem dX8_rule_10 : decode cX8_rule 10 = .ok (.putfield 187, 3) := by decide +kernel
theorem dX8_rule_13 : decode cX8_rule 13 = .ok (.aload_n 0, 1) := by decide +kernel
theorem dX8_rule_14 : decode cX8_rule 14 = .ok (.iconst 0, 1) := by decide +kernel
theorem dX8_rule_15 : decode cX8_rule 15 = .ok (.putfield 131, 3) := by decide +kernel
theorem dX8_rule_18 : decode cX8_rule 18 = .ok (.aload_n 0, 1) := by decide +kernel
theorem dX8_rule_19 : decode cX8_rule 19 = .ok (.aload_n 0, 1) := by decide +kernel
theorem dX8_rule_20 : decode cX8_rule 20 = .ok (.iload_n 1, 1) := by decide +kernel
theorem dX8_rule_21 : decode cX8_rule 21 = .ok (.invokevirtual 234, 3) := by decide +kernel
theorem dX8_rule_24 : decode cX8_rule 24 = .ok (.iconst 1, 1) := by decide +kernel
theorem dX8_rule_25 : decode cX8_rule 25 = .ok (.invokevirtual 138, 3) := by decide +kernel
theorem dX8_rule_28 : decode cX8_rule 28 = .ok (.ifCond .eq 5, 3) := by decide +kernel
theorem dX8_rule_31 : decode cX8_rule 31 = .ok (.iconst 0, 1) := by decide +kernel
theorem dX8_rule_32 : decode cX8_rule 32 = .ok (.ireturn, 1) := by decide +kernel
theorem dX8_rule_33 : decode cX8_rule 33 = .ok (.aload_n 0, 1) := by decide +kernel
theorem dX8_rule_34 : decode cX8_rule 34 = .ok (.iconst 0, 1) := by decide +kernel
theorem dX8_rule_35 : decode cX8_rule 35 = .ok (.putfield 171, 3) := by decide +kernel
theorem dX8_rule_38 : decode cX8_rule 38 = .ok (.aload_n 0, 1) := by decide +kernel
theorem dX8_rule_39 : decode cX8_rule 39 = .ok (.iconst 0, 1) := by decide +kernel
theorem dX8_rule_40 : decode cX8_rule 40 = .ok (.putfield 225, 3) := by decide +kernel
theorem dX8_rule_43 : decode cX8_rule 43 = .ok (.aload_n 0, 1) := by decide +kernel
theorem dX8_rule_44 : decode cX8_rule 44 = .ok (.iconst (-1), 1) := by decide +kernel
theorem dX8_rule_45 : decode cX8_rule 45 = .ok (.putfield 168, 3) := by decide +kernel
theorem dX8_rule_48 : decode cX8_rule 48 = .ok (.aload_n 0, 1) := by decide +kernel
theorem dX8_rule_49 : decode cX8_rule 49 = .ok (.getfield 48, 3) := by decide +kernel
theorem dX8_rule_52 : decode cX8_rule 52 = .ok (.bipush 10, 2) := by decide +kernel
theorem dX8_rule_54 : decode cX8_rule 54 = .ok (.iconst 0, 1) := by decide +kernel
theorem dX8_rule_55 : decode cX8_rule 55 = .ok (.iastore, 1) := by decide +kernel
theorem dX8_rule_56 : decode cX8_rule 56 = .ok (.aload_n 0, 1) := by decide +kernel
theorem dX8_rule_57 : decode cX8_rule 57 = .ok (.invokevirtual 215, 3) := by decide +kernel
theorem dX8_rule_60 : decode cX8_rule 60 = .ok (.aload_n 0, 1) := by decide +kernel
theorem dX8_rule_61 : decode cX8_rule 61 = .ok (.invokevirtual 228, 3) := by decide +kernel
theorem dX8_rule_64 : decode cX8_rule 64 = .ok (.aload_n 0, 1) := by decide +kernel
theorem dX8_rule_65 : decode cX8_rule 65 = .ok (.getfield 168, 3) := by decide +kernel
theorem dX8_rule_68 : decode cX8_rule 68 = .ok (.ifCond .ge 18, 3) := by decide +kernel
theorem dX8_rule_71 : decode cX8_rule 71 = .ok (.aload_n 0, 1) := by decide +kernel
theorem dX8_rule_72 : decode cX8_rule 72 = .ok (.getfield 193, 3) := by decide +kernel
theorem dX8_rule_75 : decode cX8_rule 75 = .ok (.ifCond .eq 11, 3) := by decide +kernel
theorem dX8_rule_78 : decode cX8_rule 78 = .ok (.aload_n 0, 1) := by decide +kernel
theorem dX8_rule_79 : decode cX8_rule 79 = .ok (.aload_n 0, 1) := by decide +kernel
theorem dX8_rule_80 : decode cX8_rule 80 = .ok (.getfield 174, 3) := by decide +kernel
theorem dX8_rule_83 : decode cX8_rule 83 = .ok (.invokevirtual 204, 3) := by decide +kernel
theorem dX8_rule_86 : decode cX8_rule 86 = .ok (.aload_n 0, 1) := by decide +kernel
theorem dX8_rule_87 : decode cX8_rule 87 = .ok (.aload_n 0, 1) := by decide +kernel
theorem dX8_rule_88 : decode cX8_rule 88 = .ok (.getfield 168, 3) := by decide +kernel
theorem dX8_rule_91 : decode cX8_rule 91 = .ok (.putfield 54, 3) := by decide +kernel
theorem dX8_rule_94 : decode cX8_rule 94 = .ok (.aload_n 0, 1) := by decide +kernel
theorem dX8_rule_95 : decode cX8_rule 95 = .ok (.iconst 0, 1) := by decide +kernel
theorem dX8_rule_96 : decode cX8_rule 96 = .ok (.putfield 244, 3) := by decide +kernel
theorem dX8_rule_99 : decode cX8_rule 99 = .ok (.aload_n 0, 1) := by decide +kernel
theorem dX8_rule_100 : decode cX8_rule 100 = .ok (.aload_n 0, 1) := by decide +kernel
theorem dX8_rule_101 : decode cX8_rule 101 = .ok (.getfield 168, 3) := by decide +kernel
theorem dX8_rule_104 : decode cX8_rule 104 = .ok (.ifCond .lt 7, 3) := by decide +kernel
theorem dX8_rule_107 : decode cX8_rule 107 = .ok (.iconst 1, 1) := by decide +kernel
theorem dX8_rule_108 : decode cX8_rule 108 = .ok (.goto 4, 3) := by decide +kernel
theorem dX8_rule_111 : decode cX8_rule 111 = .ok (.iconst 0, 1) := by decide +kernel
theorem dX8_rule_112 : decode cX8_rule 112 = .ok (.iconst 2, 1) := by decide +kernel
theorem dX8_rule_113 : decode cX8_rule 113 = .ok (.invokevirtual 138, 3) := by decide +kernel
theorem dX8_rule_116 : decode cX8_rule 116 = .ok (.ifCond .eq 5, 3) := by decide +kernel
theorem dX8_rule_119 : decode cX8_rule 119 = .ok (.iconst 0, 1) := by decide +kernel
theorem dX8_rule_120 : decode cX8_rule 120 = .ok (.ireturn, 1) := by decide +kernel
theorem dX8_rule_121 : decode cX8_rule 121 = .ok (.aload_n 0, 1) := by decide +kernel
theorem dX8_rule_122 : decode cX8_rule 122 = .ok (.aload_n 0, 1) := by decide +kernel
theorem dX8_rule_123 : decode cX8_rule 123 = .ok (.iload_n 1, 1) := by decide +kernel
theorem dX8_rule_124 : decode cX8_rule 124 = .ok (.invokevirtual 247, 3) := by decide +kernel
theorem dX8_rule_127 : decode cX8_rule 127 = .ok (.putfield 244, 3) := by decide +kernel
theorem dX8_rule_130 : decode cX8_rule 130 = .ok (.aload_n 0, 1) := by decide +kernel
theorem dX8_rule_131 : decode cX8_rule 131 = .ok (.aload_n 0, 1) := by decide +kernel
theorem dX8_rule_132 : decode cX8_rule 132 = .ok (.getfield 244, 3) := by decide +kernel
theorem dX8_rule_135 : decode cX8_rule 135 = .ok (.ifCond .eq 7, 3) := by decide +kernel
theorem dX8_rule_138 : decode cX8_rule 138 = .ok (.iconst 1, 1) := by decide +kernel
theorem dX8_rule_139 : decode cX8_rule 139 = .ok (.goto 4, 3) := by decide +kernel
theorem dX8_rule_142 : decode cX8_rule 142 = .ok (.iconst 0, 1) := by decide +kernel
theorem dX8_rule_143 : decode cX8_rule 143 = .ok (.iconst 3, 1) := by decide +kernel
theorem dX8_rule_144 : decode cX8_rule 144 = .ok (.invokevirtual 138, 3) := by decide +kernel
theorem dX8_rule_147 : decode cX8_rule 147 = .ok (.ifCond .eq 5, 3) := by decide +kernel
theorem dX8_rule_150 : decode cX8_rule 150 = .ok (.iconst 0, 1) := by decide +kernel
theorem dX8_rule_151 : decode cX8_rule 151 = .ok (.ireturn, 1) := by decide +kernel
theorem dX8_rule_152 : decode cX8_rule 152 = .ok (.iconst 0, 1) := by decide +kernel
theorem dX8_rule_153 : decode cX8_rule 153 = .ok (.istore_n 2, 1) := by decide +kernel
theorem dX8_rule_154 : decode cX8_rule 154 = .ok (.iload_n 2, 1) := by decide +kernel
theorem dX8_rule_155 : decode cX8_rule 155 = .ok (.aload_n 0, 1) := by decide +kernel
theorem dX8_rule_156 : decode cX8_rule 156 = .ok (.getfield 48, 3) := by decide +kernel
theorem dX8_rule_159 : decode cX8_rule 159 = .ok (.bipush 10, 2) := by decide +kernel
theorem dX8_rule_161 : decode cX8_rule 161 = .ok (.iaload, 1) := by decide +kernel
theorem dX8_rule_162 : decode cX8_rule 162 = .ok (.if_icmp .ge 53, 3) := by decide +kernel
theorem dX8_rule_165 : decode cX8_rule 165 = .ok (.aload_n 0, 1) := by decide +kernel
theorem dX8_rule_166 : decode cX8_rule 166 = .ok (.getfield 42, 3) := by decide +kernel
theorem dX8_rule_169 : decode cX8_rule 169 = .ok (.sipush 400, 3) := by decide +kernel
theorem dX8_rule_172 : decode cX8_rule 172 = .ok (.iload_n 1, 1) := by decide +kernel
theorem dX8_rule_173 : decode cX8_rule 173 = .ok (.imul, 1) := by decide +kernel
theorem dX8_rule_174 : decode cX8_rule 174 = .ok (.iload_n 2, 1) := by decide +kernel
theorem dX8_rule_175 : decode cX8_rule 175 = .ok (.iadd, 1) := by decide +kernel
theorem dX8_rule_176 : decode cX8_rule 176 = .ok (.aload_n 0, 1) := by decide +kernel
theorem dX8_rule_177 : decode cX8_rule 177 = .ok (.getfield 42, 3) := by decide +kernel
theorem dX8_rule_180 : decode cX8_rule 180 = .ok (.sipush 4000, 3) := by decide +kernel
theorem dX8_rule_183 : decode cX8_rule 183 = .ok (.iload_n 2, 1) := by decide +kernel
theorem dX8_rule_184 : decode cX8_rule 184 = .ok (.iadd, 1) := by decide +kernel
theorem dX8_rule_185 : decode cX8_rule 185 = .ok (.iaload, 1) := by decide +kernel
theorem dX8_rule_186 : decode cX8_rule 186 = .ok (.iastore, 1) := by decide +kernel
theorem dX8_rule_187 : decode cX8_rule 187 = .ok (.aload_n 0, 1) := by decide +kernel
theorem dX8_rule_188 : decode cX8_rule 188 = .ok (.getfield 45, 3) := by decide +kernel
theorem dX8_rule_191 : decode cX8_rule 191 = .ok (.sipush 400, 3) := by decide +kernel
theorem dX8_rule_194 : decode cX8_rule 194 = .ok (.iload_n 1, 1) := by decide +kernel
theorem dX8_rule_195 : decode cX8_rule 195 = .ok (.imul, 1) := by decide +kernel
theorem dX8_rule_196 : decode cX8_rule 196 = .ok (.iload_n 2, 1) := by decide +kernel
theorem dX8_rule_197 : decode cX8_rule 197 = .ok (.iadd, 1) := by decide +kernel
theorem dX8_rule_198 : decode cX8_rule 198 = .ok (.aload_n 0, 1) := by decide +kernel
theorem dX8_rule_199 : decode cX8_rule 199 = .ok (.getfield 45, 3) := by decide +kernel
theorem dX8_rule_202 : decode cX8_rule 202 = .ok (.sipush 4000, 3) := by decide +kernel
theorem dX8_rule_205 : decode cX8_rule 205 = .ok (.iload_n 2, 1) := by decide +kernel
theorem dX8_rule_206 : decode cX8_rule 206 = .ok (.iadd, 1) := by decide +kernel
theorem dX8_rule_207 : decode cX8_rule 207 = .ok (.iaload, 1) := by decide +kernel
theorem dX8_rule_208 : decode cX8_rule 208 = .ok (.iastore, 1) := by decide +kernel
theorem dX8_rule_209 : decode cX8_rule 209 = .ok (.iinc 2 1, 3) := by decide +kernel
theorem dX8_rule_212 : decode cX8_rule 212 = .ok (.goto (-58), 3) := by decide +kernel
theorem dX8_rule_215 : decode cX8_rule 215 = .ok (.aload_n 0, 1) := by decide +kernel
theorem dX8_rule_216 : decode cX8_rule 216 = .ok (.getfield 48, 3) := by decide +kernel
theorem dX8_rule_219 : decode cX8_rule 219 = .ok (.iload_n 1, 1) := by decide +kernel
theorem dX8_rule_220 : decode cX8_rule 220 = .ok (.aload_n 0, 1) := by decide +kernel
theorem dX8_rule_221 : decode cX8_rule 221 = .ok (.getfield 48, 3) := by decide +kernel
theorem dX8_rule_224 : decode cX8_rule 224 = .ok (.bipush 10, 2) := by decide +kernel
theorem dX8_rule_226 : decode cX8_rule 226 = .ok (.iaload, 1) := by decide +kernel
theorem dX8_rule_227 : decode cX8_rule 227 = .ok (.iastore, 1) := by decide +kernel
theorem dX8_rule_228 : decode cX8_rule 228 = .ok (.aload_n 0, 1) := by decide +kernel
theorem dX8_rule_229 : decode cX8_rule 229 = .ok (.getfield 51, 3) := by decide +kernel
theorem dX8_rule_232 : decode cX8_rule 232 = .ok (.iload_n 1, 1) := by decide +kernel
theorem dX8_rule_233 : decode cX8_rule 233 = .ok (.iconst 1, 1) := by decide +kernel
theorem dX8_rule_234 : decode cX8_rule 234 = .ok (.bastore, 1) := by decide +kernel
theorem dX8_rule_235 : decode cX8_rule 235 = .ok (.aload_n 0, 1) := by decide +kernel
theorem dX8_rule_236 : decode cX8_rule 236 = .ok (.iload_n 1, 1) := by decide +kernel
theorem dX8_rule_237 : decode cX8_rule 237 = .ok (.invokevirtual 240, 3) := by decide +kernel
theorem dX8_rule_240 : decode cX8_rule 240 = .ok (.invokestatic 250, 3) := by decide +kernel
theorem dX8_rule_243 : decode cX8_rule 243 = .ok (.ireturn, 1) := by decide +kernel
theorem dX8_unrule_0 : decode cX8_unrule 0 = .ok (.aload_n 0, 1) := by decide +kernel
theorem dX8_unrule_1 : decode cX8_unrule 1 = .ok (.iconst 0, 1) := by decide +kernel
theorem dX8_unrule_2 : decode cX8_unrule 2 = .ok (.putfield 110, 3) := by decide +kernel
theorem dX8_unrule_5 : decode cX8_unrule 5 = .ok (.aload_n 0, 1) := by decide +kernel
theorem dX8_unrule_6 : decode cX8_unrule 6 = .ok (.aload_n 0, 1) := by decide +kernel
theorem dX8_unrule_7 : decode cX8_unrule 7 = .ok (.iload_n 1, 1) := by decide +kernel
theorem dX8_unrule_8 : decode cX8_unrule 8 = .ok (.invokevirtual 234, 3) := by decide +kernel
theorem dX8_unrule_11 : decode cX8_unrule 11 = .ok (.iconst 1, 1) := by decide +kernel
theorem dX8_unrule_12 : decode cX8_unrule 12 = .ok (.invokevirtual 138, 3) := by decide +kernel
theorem dX8_unrule_15 : decode cX8_unrule 15 = .ok (.ifCond .eq 5, 3) := by decide +kernel
theorem dX8_unrule_18 : decode cX8_unrule 18 = .ok (.iconst 0, 1) := by decide +kernel
theorem dX8_unrule_19 : decode cX8_unrule 19 = .ok (.ireturn, 1) := by decide +kernel
theorem dX8_unrule_20 : decode cX8_unrule 20 = .ok (.aload_n 0, 1) := by decide +kernel
theorem dX8_unrule_21 : decode cX8_unrule 21 = .ok (.getfield 51, 3) := by decide +kernel
theorem dX8_unrule_24 : decode cX8_unrule 24 = .ok (.iload_n 1, 1) := by decide +kernel
theorem dX8_unrule_25 : decode cX8_unrule 25 = .ok (.baload, 1) := by decide +kernel
theorem dX8_unrule_26 : decode cX8_unrule 26 = .ok (.istore_n 2, 1) := by decide +kernel
theorem dX8_unrule_27 : decode cX8_unrule 27 = .ok (.aload_n 0, 1) := by decide +kernel
theorem dX8_unrule_28 : decode cX8_unrule 28 = .ok (.getfield 51, 3) := by decide +kernel
theorem dX8_unrule_31 : decode cX8_unrule 31 = .ok (.iload_n 1, 1) := by decide +kernel
theorem dX8_unrule_32 : decode cX8_unrule 32 = .ok (.iconst 0, 1) := by decide +kernel
theorem dX8_unrule_33 : decode cX8_unrule 33 = .ok (.bastore, 1) := by decide +kernel
theorem dX8_unrule_34 : decode cX8_unrule 34 = .ok (.iload_n 2, 1) := by decide +kernel
theorem dX8_unrule_35 : decode cX8_unrule 35 = .ok (.ireturn, 1) := by decide +kernel
theorem dX8_fault_0 : decode cX8_fault 0 = .ok (.aload_n 0, 1) := by decide +kernel
theorem dX8_fault_1 : decode cX8_fault 1 = .ok (.iconst 0, 1) := by decide +kernel
theorem dX8_fault_2 : decode cX8_fault 2 = .ok (.putfield 110, 3) := by decide +kernel
theorem dX8_fault_5 : decode cX8_fault 5 = .ok (.iload_n 1, 1) := by decide +kernel
theorem dX8_fault_6 : decode cX8_fault 6 = .ok (.ifCond .ne 10, 3) := by decide +kernel
theorem dX8_fault_9 : decode cX8_fault 9 = .ok (.aload_n 0, 1) := by decide +kernel
theorem dX8_fault_10 : decode cX8_fault 10 = .ok (.getfield 54, 3) := by decide +kernel
theorem dX8_fault_13 : decode cX8_fault 13 = .ok (.goto 16, 3) := by decide +kernel
theorem dX8_fault_16 : decode cX8_fault 16 = .ok (.iload_n 1, 1) := by decide +kernel
theorem dX8_fault_17 : decode cX8_fault 17 = .ok (.iconst 1, 1) := by decide +kernel
theorem dX8_fault_18 : decode cX8_fault 18 = .ok (.if_icmp .ne 10, 3) := by decide +kernel
theorem dX8_fault_21 : decode cX8_fault 21 = .ok (.aload_n 0, 1) := by decide +kernel
theorem dX8_fault_22 : decode cX8_fault 22 = .ok (.getfield 244, 3) := by decide +kernel
theorem dX8_fault_25 : decode cX8_fault 25 = .ok (.goto 4, 3) := by decide +kernel
theorem dX8_fault_28 : decode cX8_fault 28 = .ok (.iconst (-1), 1) := by decide +kernel
theorem dX8_fault_29 : decode cX8_fault 29 = .ok (.ireturn, 1) := by decide +kernel
theorem dX8_depth_0 : decode cX8_depth 0 = .ok (.aload_n 0, 1) := by decide +kernel
theorem dX8_depth_1 : decode cX8_depth 1 = .ok (.getfield 30, 3) := by decide +kernel
theorem dX8_depth_4 : decode cX8_depth 4 = .ok (.iconst 4, 1) := by decide +kernel
theorem dX8_depth_5 : decode cX8_depth 5 = .ok (.iload_n 1, 1) := by decide +kernel
theorem dX8_depth_6 : decode cX8_depth 6 = .ok (.imul, 1) := by decide +kernel
theorem dX8_depth_7 : decode cX8_depth 7 = .ok (.iaload, 1) := by decide +kernel
theorem dX8_depth_8 : decode cX8_depth 8 = .ok (.aload_n 0, 1) := by decide +kernel
theorem dX8_depth_9 : decode cX8_depth 9 = .ok (.getfield 30, 3) := by decide +kernel
theorem dX8_depth_12 : decode cX8_depth 12 = .ok (.iconst 4, 1) := by decide +kernel
theorem dX8_depth_13 : decode cX8_depth 13 = .ok (.iload_n 1, 1) := by decide +kernel
theorem dX8_depth_14 : decode cX8_depth 14 = .ok (.imul, 1) := by decide +kernel
theorem dX8_depth_15 : decode cX8_depth 15 = .ok (.iconst 1, 1) := by decide +kernel
theorem dX8_depth_16 : decode cX8_depth 16 = .ok (.iadd, 1) := by decide +kernel
theorem dX8_depth_17 : decode cX8_depth 17 = .ok (.iaload, 1) := by decide +kernel
theorem dX8_depth_18 : decode cX8_depth 18 = .ok (.iadd, 1) := by decide +kernel
theorem dX8_depth_19 : decode cX8_depth 19 = .ok (.aload_n 0, 1) := by decide +kernel
theorem dX8_depth_20 : decode cX8_depth 20 = .ok (.getfield 30, 3) := by decide +kernel
theorem dX8_depth_23 : decode cX8_depth 23 = .ok (.iconst 4, 1) := by decide +kernel
theorem dX8_depth_24 : decode cX8_depth 24 = .ok (.iload_n 1, 1) := by decide +kernel
theorem dX8_depth_25 : decode cX8_depth 25 = .ok (.imul, 1) := by decide +kernel
theorem dX8_depth_26 : decode cX8_depth 26 = .ok (.iconst 2, 1) := by decide +kernel
theorem dX8_depth_27 : decode cX8_depth 27 = .ok (.iadd, 1) := by decide +kernel
theorem dX8_depth_28 : decode cX8_depth 28 = .ok (.iaload, 1) := by decide +kernel
theorem dX8_depth_29 : decode cX8_depth 29 = .ok (.iadd, 1) := by decide +kernel
theorem dX8_depth_30 : decode cX8_depth 30 = .ok (.aload_n 0, 1) := by decide +kernel
theorem dX8_depth_31 : decode cX8_depth 31 = .ok (.getfield 30, 3) := by decide +kernel
theorem dX8_depth_34 : decode cX8_depth 34 = .ok (.iconst 4, 1) := by decide +kernel
theorem dX8_depth_35 : decode cX8_depth 35 = .ok (.iload_n 1, 1) := by decide +kernel
theorem dX8_depth_36 : decode cX8_depth 36 = .ok (.imul, 1) := by decide +kernel
theorem dX8_depth_37 : decode cX8_depth 37 = .ok (.iconst 3, 1) := by decide +kernel
theorem dX8_depth_38 : decode cX8_depth 38 = .ok (.iadd, 1) := by decide +kernel
theorem dX8_depth_39 : decode cX8_depth 39 = .ok (.iaload, 1) := by decide +kernel
theorem dX8_depth_40 : decode cX8_depth 40 = .ok (.iadd, 1) := by decide +kernel
theorem dX8_depth_41 : decode cX8_depth 41 = .ok (.ireturn, 1) := by decide +kernel
theorem dX8_measure_0 : decode cX8_measure 0 = .ok (.iload_n 2, 1) := by decide +kernel
theorem dX8_measure_1 : decode cX8_measure 1 = .ok (.iconst 1, 1) := by decide +kernel
theorem dX8_measure_2 : decode cX8_measure 2 = .ok (.if_icmp .ne 8, 3) := by decide +kernel
theorem dX8_measure_5 : decode cX8_measure 5 = .ok (.aload_n 0, 1) := by decide +kernel
theorem dX8_measure_6 : decode cX8_measure 6 = .ok (.getfield 150, 3) := by decide +kernel
theorem dX8_measure_9 : decode cX8_measure 9 = .ok (.ireturn, 1) := by decide +kernel
theorem dX8_measure_10 : decode cX8_measure 10 = .ok (.iload_n 2, 1) := by decide +kernel
theorem dX8_measure_11 : decode cX8_measure 11 = .ok (.iconst 2, 1) := by decide +kernel
theorem dX8_measure_12 : decode cX8_measure 12 = .ok (.if_icmp .ne 11, 3) := by decide +kernel
theorem dX8_measure_15 : decode cX8_measure 15 = .ok (.aload_n 0, 1) := by decide +kernel
theorem dX8_measure_16 : decode cX8_measure 16 = .ok (.getfield 255, 3) := by decide +kernel
theorem dX8_measure_19 : decode cX8_measure 19 = .ok (.bipush 60, 2) := by decide +kernel
theorem dX8_measure_21 : decode cX8_measure 21 = .ok (.idiv, 1) := by decide +kernel
theorem dX8_measure_22 : decode cX8_measure 22 = .ok (.ireturn, 1) := by decide +kernel
theorem dX8_measure_23 : decode cX8_measure 23 = .ok (.aload_n 0, 1) := by decide +kernel
theorem dX8_measure_24 : decode cX8_measure 24 = .ok (.getfield 27, 3) := by decide +kernel
theorem dX8_measure_27 : decode cX8_measure 27 = .ok (.bipush 6, 2) := by decide +kernel
theorem dX8_measure_29 : decode cX8_measure 29 = .ok (.iload_n 1, 1) := by decide +kernel
theorem dX8_measure_30 : decode cX8_measure 30 = .ok (.imul, 1) := by decide +kernel
theorem dX8_measure_31 : decode cX8_measure 31 = .ok (.iconst 4, 1) := by decide +kernel
theorem dX8_measure_32 : decode cX8_measure 32 = .ok (.iadd, 1) := by decide +kernel
theorem dX8_measure_33 : decode cX8_measure 33 = .ok (.iaload, 1) := by decide +kernel
theorem dX8_measure_34 : decode cX8_measure 34 = .ok (.istore_n 3, 1) := by decide +kernel
theorem dX8_measure_35 : decode cX8_measure 35 = .ok (.iload_n 2, 1) := by decide +kernel
theorem dX8_measure_36 : decode cX8_measure 36 = .ok (.ifCond .ne 11, 3) := by decide +kernel
theorem dX8_measure_39 : decode cX8_measure 39 = .ok (.aload_n 0, 1) := by decide +kernel
theorem dX8_measure_40 : decode cX8_measure 40 = .ok (.iload_n 3, 1) := by decide +kernel
theorem dX8_measure_41 : decode cX8_measure 41 = .ok (.invokevirtual 258, 3) := by decide +kernel
theorem dX8_measure_44 : decode cX8_measure 44 = .ok (.goto 13, 3) := by decide +kernel
theorem dX8_measure_47 : decode cX8_measure 47 = .ok (.aload_n 0, 1) := by decide +kernel
theorem dX8_measure_48 : decode cX8_measure 48 = .ok (.getfield 30, 3) := by decide +kernel
theorem dX8_measure_51 : decode cX8_measure 51 = .ok (.iconst 4, 1) := by decide +kernel
theorem dX8_measure_52 : decode cX8_measure 52 = .ok (.iload_n 3, 1) := by decide +kernel
theorem dX8_measure_53 : decode cX8_measure 53 = .ok (.imul, 1) := by decide +kernel
theorem dX8_measure_54 : decode cX8_measure 54 = .ok (.iconst 3, 1) := by decide +kernel
theorem dX8_measure_55 : decode cX8_measure 55 = .ok (.iadd, 1) := by decide +kernel
theorem dX8_measure_56 : decode cX8_measure 56 = .ok (.iaload, 1) := by decide +kernel
theorem dX8_measure_57 : decode cX8_measure 57 = .ok (.istore 4, 2) := by decide +kernel
theorem dX8_measure_59 : decode cX8_measure 59 = .ok (.iload_n 3, 1) := by decide +kernel
theorem dX8_measure_60 : decode cX8_measure 60 = .ok (.iconst 1, 1) := by decide +kernel
theorem dX8_measure_61 : decode cX8_measure 61 = .ok (.iadd, 1) := by decide +kernel
theorem dX8_measure_62 : decode cX8_measure 62 = .ok (.istore 5, 2) := by decide +kernel
theorem dX8_measure_64 : decode cX8_measure 64 = .ok (.iload 5, 2) := by decide +kernel
theorem dX8_measure_66 : decode cX8_measure 66 = .ok (.iload_n 3, 1) := by decide +kernel
theorem dX8_measure_67 : decode cX8_measure 67 = .ok (.aload_n 0, 1) := by decide +kernel
theorem dX8_measure_68 : decode cX8_measure 68 = .ok (.getfield 27, 3) := by decide +kernel
theorem dX8_measure_71 : decode cX8_measure 71 = .ok (.bipush 6, 2) := by decide +kernel
theorem dX8_measure_73 : decode cX8_measure 73 = .ok (.iload_n 1, 1) := by decide +kernel
theorem dX8_measure_74 : decode cX8_measure 74 = .ok (.imul, 1) := by decide +kernel
theorem dX8_measure_75 : decode cX8_measure 75 = .ok (.iconst 5, 1) := by decide +kernel
theorem dX8_measure_76 : decode cX8_measure 76 = .ok (.iadd, 1) := by decide +kernel
theorem dX8_measure_77 : decode cX8_measure 77 = .ok (.iaload, 1) := by decide +kernel
theorem dX8_measure_78 : decode cX8_measure 78 = .ok (.iadd, 1) := by decide +kernel
theorem dX8_measure_79 : decode cX8_measure 79 = .ok (.if_icmp .ge 60, 3) := by decide +kernel
theorem dX8_measure_82 : decode cX8_measure 82 = .ok (.iload_n 2, 1) := by decide +kernel
theorem dX8_measure_83 : decode cX8_measure 83 = .ok (.ifCond .ne 12, 3) := by decide +kernel
theorem dX8_measure_86 : decode cX8_measure 86 = .ok (.aload_n 0, 1) := by decide +kernel
theorem dX8_measure_87 : decode cX8_measure 87 = .ok (.iload 5, 2) := by decide +kernel
theorem dX8_measure_89 : decode cX8_measure 89 = .ok (.invokevirtual 258, 3) := by decide +kernel
theorem dX8_measure_92 : decode cX8_measure 92 = .ok (.goto 14, 3) := by decide +kernel
theorem dX8_measure_95 : decode cX8_measure 95 = .ok (.aload_n 0, 1) := by decide +kernel
theorem dX8_measure_96 : decode cX8_measure 96 = .ok (.getfield 30, 3) := by decide +kernel
theorem dX8_measure_99 : decode cX8_measure 99 = .ok (.iconst 4, 1) := by decide +kernel
theorem dX8_measure_100 : decode cX8_measure 100 = .ok (.iload 5, 2) := by decide +kernel
theorem dX8_measure_102 : decode cX8_measure 102 = .ok (.imul, 1) := by decide +kernel
theorem dX8_measure_103 : decode cX8_measure 103 = .ok (.iconst 3, 1) := by decide +kernel
theorem dX8_measure_104 : decode cX8_measure 104 = .ok (.iadd, 1) := by decide +kernel
theorem dX8_measure_105 : decode cX8_measure 105 = .ok (.iaload, 1) := by decide +kernel
theorem dX8_measure_106 : decode cX8_measure 106 = .ok (.istore 6, 2) := by decide +kernel
theorem dX8_measure_108 : decode cX8_measure 108 = .ok (.iload_n 2, 1) := by decide +kernel
theorem dX8_measure_109 : decode cX8_measure 109 = .ok (.ifCond .ne 13, 3) := by decide +kernel
theorem dX8_measure_112 : decode cX8_measure 112 = .ok (.iload 6, 2) := by decide +kernel
theorem dX8_measure_114 : decode cX8_measure 114 = .ok (.iload 4, 2) := by decide +kernel
theorem dX8_measure_116 : decode cX8_measure 116 = .ok (.if_icmp .ge 17, 3) := by decide +kernel
theorem dX8_measure_119 : decode cX8_measure 119 = .ok (.goto 10, 3) := by decide +kernel
theorem dX8_measure_122 : decode cX8_measure 122 = .ok (.iload 6, 2) := by decide +kernel
theorem dX8_measure_124 : decode cX8_measure 124 = .ok (.iload 4, 2) := by decide +kernel
theorem dX8_measure_126 : decode cX8_measure 126 = .ok (.if_icmp .le 7, 3) := by decide +kernel
theorem dX8_measure_129 : decode cX8_measure 129 = .ok (.iload 6, 2) := by decide +kernel
theorem dX8_measure_131 : decode cX8_measure 131 = .ok (.istore 4, 2) := by decide +kernel
theorem dX8_measure_133 : decode cX8_measure 133 = .ok (.iinc 5 1, 3) := by decide +kernel
theorem dX8_measure_136 : decode cX8_measure 136 = .ok (.goto (-72), 3) := by decide +kernel
theorem dX8_measure_139 : decode cX8_measure 139 = .ok (.iload 4, 2) := by decide +kernel
theorem dX8_measure_141 : decode cX8_measure 141 = .ok (.bipush 100, 2) := by decide +kernel
theorem dX8_measure_143 : decode cX8_measure 143 = .ok (.idiv, 1) := by decide +kernel
theorem dX8_measure_144 : decode cX8_measure 144 = .ok (.ireturn, 1) := by decide +kernel
theorem dX8_holds_0 : decode cX8_holds 0 = .ok (.iconst 0, 1) := by decide +kernel
theorem dX8_holds_1 : decode cX8_holds 1 = .ok (.istore_n 2, 1) := by decide +kernel
theorem dX8_holds_2 : decode cX8_holds 2 = .ok (.sipush 400, 3) := by decide +kernel
theorem dX8_holds_5 : decode cX8_holds 5 = .ok (.iload_n 1, 1) := by decide +kernel
theorem dX8_holds_6 : decode cX8_holds 6 = .ok (.imul, 1) := by decide +kernel
theorem dX8_holds_7 : decode cX8_holds 7 = .ok (.istore_n 3, 1) := by decide +kernel
theorem dX8_holds_8 : decode cX8_holds 8 = .ok (.iload_n 3, 1) := by decide +kernel
theorem dX8_holds_9 : decode cX8_holds 9 = .ok (.sipush 400, 3) := by decide +kernel
theorem dX8_holds_12 : decode cX8_holds 12 = .ok (.iload_n 1, 1) := by decide +kernel
theorem dX8_holds_13 : decode cX8_holds 13 = .ok (.imul, 1) := by decide +kernel
theorem dX8_holds_14 : decode cX8_holds 14 = .ok (.aload_n 0, 1) := by decide +kernel
theorem dX8_holds_15 : decode cX8_holds 15 = .ok (.getfield 48, 3) := by decide +kernel
theorem dX8_holds_18 : decode cX8_holds 18 = .ok (.iload_n 1, 1) := by decide +kernel
theorem dX8_holds_19 : decode cX8_holds 19 = .ok (.iaload, 1) := by decide +kernel
theorem dX8_holds_20 : decode cX8_holds 20 = .ok (.iadd, 1) := by decide +kernel
theorem dX8_holds_21 : decode cX8_holds 21 = .ok (.if_icmp .ge 211, 3) := by decide +kernel
theorem dX8_holds_24 : decode cX8_holds 24 = .ok (.aload_n 0, 1) := by decide +kernel
theorem dX8_holds_25 : decode cX8_holds 25 = .ok (.getfield 42, 3) := by decide +kernel
theorem dX8_holds_28 : decode cX8_holds 28 = .ok (.iload_n 3, 1) := by decide +kernel
theorem dX8_holds_29 : decode cX8_holds 29 = .ok (.iaload, 1) := by decide +kernel
theorem dX8_holds_30 : decode cX8_holds 30 = .ok (.istore 4, 2) := by decide +kernel
theorem dX8_holds_32 : decode cX8_holds 32 = .ok (.iload 4, 2) := by decide +kernel
theorem dX8_holds_34 : decode cX8_holds 34 = .ok (.bipush 14, 2) := by decide +kernel
theorem dX8_holds_36 : decode cX8_holds 36 = .ok (.if_icmp .ne 30, 3) := by decide +kernel
theorem dX8_holds_39 : decode cX8_holds 39 = .ok (.aload_n 0, 1) := by decide +kernel
theorem dX8_holds_40 : decode cX8_holds 40 = .ok (.getfield 86, 3) := by decide +kernel
theorem dX8_holds_43 : decode cX8_holds 43 = .ok (.iload_n 2, 1) := by decide +kernel
theorem dX8_holds_44 : decode cX8_holds 44 = .ok (.iconst 1, 1) := by decide +kernel
theorem dX8_holds_45 : decode cX8_holds 45 = .ok (.isub, 1) := by decide +kernel
theorem dX8_holds_46 : decode cX8_holds 46 = .ok (.aload_n 0, 1) := by decide +kernel
theorem dX8_holds_47 : decode cX8_holds 47 = .ok (.getfield 86, 3) := by decide +kernel
theorem dX8_holds_50 : decode cX8_holds 50 = .ok (.iload_n 2, 1) := by decide +kernel
theorem dX8_holds_51 : decode cX8_holds 51 = .ok (.iconst 1, 1) := by decide +kernel
theorem dX8_holds_52 : decode cX8_holds 52 = .ok (.isub, 1) := by decide +kernel
theorem dX8_holds_53 : decode cX8_holds 53 = .ok (.baload, 1) := by decide +kernel
theorem dX8_holds_54 : decode cX8_holds 54 = .ok (.ifCond .ne 7, 3) := by decide +kernel
theorem dX8_holds_57 : decode cX8_holds 57 = .ok (.iconst 1, 1) := by decide +kernel
theorem dX8_holds_58 : decode cX8_holds 58 = .ok (.goto 4, 3) := by decide +kernel
theorem dX8_holds_61 : decode cX8_holds 61 = .ok (.iconst 0, 1) := by decide +kernel
theorem dX8_holds_62 : decode cX8_holds 62 = .ok (.bastore, 1) := by decide +kernel
theorem dX8_holds_63 : decode cX8_holds 63 = .ok (.goto 163, 3) := by decide +kernel
theorem dX8_holds_66 : decode cX8_holds 66 = .ok (.iload 4, 2) := by decide +kernel
theorem dX8_holds_68 : decode cX8_holds 68 = .ok (.bipush 15, 2) := by decide +kernel
theorem dX8_holds_70 : decode cX8_holds 70 = .ok (.if_icmp .eq 10, 3) := by decide +kernel
theorem dX8_holds_73 : decode cX8_holds 73 = .ok (.iload 4, 2) := by decide +kernel
theorem dX8_holds_75 : decode cX8_holds 75 = .ok (.bipush 16, 2) := by decide +kernel
theorem dX8_holds_77 : decode cX8_holds 77 = .ok (.if_icmp .ne 77, 3) := by decide +kernel
theorem dX8_holds_80 : decode cX8_holds 80 = .ok (.iinc 2 (-1), 3) := by decide +kernel
theorem dX8_holds_83 : decode cX8_holds 83 = .ok (.aload_n 0, 1) := by decide +kernel
theorem dX8_holds_84 : decode cX8_holds 84 = .ok (.getfield 86, 3) := by decide +kernel
theorem dX8_holds_87 : decode cX8_holds 87 = .ok (.iload_n 2, 1) := by decide +kernel
theorem dX8_holds_88 : decode cX8_holds 88 = .ok (.iconst 1, 1) := by decide +kernel
theorem dX8_holds_89 : decode cX8_holds 89 = .ok (.isub, 1) := by decide +kernel
theorem dX8_holds_90 : decode cX8_holds 90 = .ok (.iload 4, 2) := by decide +kernel
theorem dX8_holds_92 : decode cX8_holds 92 = .ok (.bipush 15, 2) := by decide +kernel
theorem dX8_holds_94 : decode cX8_holds 94 = .ok (.if_icmp .ne 31, 3) := by decide +kernel
theorem dX8_holds_97 : decode cX8_holds 97 = .ok (.aload_n 0, 1) := by decide +kernel
theorem dX8_holds_98 : decode cX8_holds 98 = .ok (.getfield 86, 3) := by decide +kernel
theorem dX8_holds_101 : decode cX8_holds 101 = .ok (.iload_n 2, 1) := by decide +kernel
theorem dX8_holds_102 : decode cX8_holds 102 = .ok (.iconst 1, 1) := by decide +kernel
theorem dX8_holds_103 : decode cX8_holds 103 = .ok (.isub, 1) := by decide +kernel
theorem dX8_holds_104 : decode cX8_holds 104 = .ok (.baload, 1) := by decide +kernel
theorem dX8_holds_105 : decode cX8_holds 105 = .ok (.ifCond .eq 16, 3) := by decide +kernel
theorem dX8_holds_108 : decode cX8_holds 108 = .ok (.aload_n 0, 1) := by decide +kernel
theorem dX8_holds_109 : decode cX8_holds 109 = .ok (.getfield 86, 3) := by decide +kernel
theorem dX8_holds_112 : decode cX8_holds 112 = .ok (.iload_n 2, 1) := by decide +kernel
theorem dX8_holds_113 : decode cX8_holds 113 = .ok (.baload, 1) := by decide +kernel
theorem dX8_holds_114 : decode cX8_holds 114 = .ok (.ifCond .eq 7, 3) := by decide +kernel
theorem dX8_holds_117 : decode cX8_holds 117 = .ok (.iconst 1, 1) := by decide +kernel
theorem dX8_holds_118 : decode cX8_holds 118 = .ok (.goto 32, 3) := by decide +kernel
theorem dX8_holds_121 : decode cX8_holds 121 = .ok (.iconst 0, 1) := by decide +kernel
theorem dX8_holds_122 : decode cX8_holds 122 = .ok (.goto 28, 3) := by decide +kernel
theorem dX8_holds_125 : decode cX8_holds 125 = .ok (.aload_n 0, 1) := by decide +kernel
theorem dX8_holds_126 : decode cX8_holds 126 = .ok (.getfield 86, 3) := by decide +kernel
theorem dX8_holds_129 : decode cX8_holds 129 = .ok (.iload_n 2, 1) := by decide +kernel
theorem dX8_holds_130 : decode cX8_holds 130 = .ok (.iconst 1, 1) := by decide +kernel
theorem dX8_holds_131 : decode cX8_holds 131 = .ok (.isub, 1) := by decide +kernel
theorem dX8_holds_132 : decode cX8_holds 132 = .ok (.baload, 1) := by decide +kernel
theorem dX8_holds_133 : decode cX8_holds 133 = .ok (.ifCond .ne 12, 3) := by decide +kernel
theorem dX8_holds_136 : decode cX8_holds 136 = .ok (.aload_n 0, 1) := by decide +kernel
theorem dX8_holds_137 : decode cX8_holds 137 = .ok (.getfield 86, 3) := by decide +kernel
theorem dX8_holds_140 : decode cX8_holds 140 = .ok (.iload_n 2, 1) := by decide +kernel
theorem dX8_holds_141 : decode cX8_holds 141 = .ok (.baload, 1) := by decide +kernel
theorem dX8_holds_142 : decode cX8_holds 142 = .ok (.ifCond .eq 7, 3) := by decide +kernel
theorem dX8_holds_145 : decode cX8_holds 145 = .ok (.iconst 1, 1) := by decide +kernel
theorem dX8_holds_146 : decode cX8_holds 146 = .ok (.goto 4, 3) := by decide +kernel
theorem dX8_holds_149 : decode cX8_holds 149 = .ok (.iconst 0, 1) := by decide +kernel
theorem dX8_holds_150 : decode cX8_holds 150 = .ok (.bastore, 1) := by decide +kernel
theorem dX8_holds_151 : decode cX8_holds 151 = .ok (.goto 75, 3) := by decide +kernel
theorem dX8_holds_154 : decode cX8_holds 154 = .ok (.aload_n 0, 1) := by decide +kernel
theorem dX8_holds_155 : decode cX8_holds 155 = .ok (.getfield 86, 3) := by decide +kernel
theorem dX8_holds_158 : decode cX8_holds 158 = .ok (.iload_n 2, 1) := by decide +kernel
theorem dX8_holds_159 : decode cX8_holds 159 = .ok (.iload 4, 2) := by decide +kernel
theorem dX8_holds_161 : decode cX8_holds 161 = .ok (.bipush 12, 2) := by decide +kernel
theorem dX8_holds_163 : decode cX8_holds 163 = .ok (.if_icmp .ne 17, 3) := by decide +kernel
theorem dX8_holds_166 : decode cX8_holds 166 = .ok (.aload_n 0, 1) := by decide +kernel
theorem dX8_holds_167 : decode cX8_holds 167 = .ok (.getfield 83, 3) := by decide +kernel
theorem dX8_holds_170 : decode cX8_holds 170 = .ok (.aload_n 0, 1) := by decide +kernel
theorem dX8_holds_171 : decode cX8_holds 171 = .ok (.getfield 45, 3) := by decide +kernel
theorem dX8_holds_174 : decode cX8_holds 174 = .ok (.iload_n 3, 1) := by decide +kernel
theorem dX8_holds_175 : decode cX8_holds 175 = .ok (.iaload, 1) := by decide +kernel
theorem dX8_holds_176 : decode cX8_holds 176 = .ok (.baload, 1) := by decide +kernel
theorem dX8_holds_177 : decode cX8_holds 177 = .ok (.goto 45, 3) := by decide +kernel
theorem dX8_holds_180 : decode cX8_holds 180 = .ok (.iload 4, 2) := by decide +kernel
theorem dX8_holds_182 : decode cX8_holds 182 = .ok (.bipush 13, 2) := by decide +kernel
theorem dX8_holds_184 : decode cX8_holds 184 = .ok (.if_icmp .ne 16, 3) := by decide +kernel
theorem dX8_holds_187 : decode cX8_holds 187 = .ok (.aload_n 0, 1) := by decide +kernel
theorem dX8_holds_188 : decode cX8_holds 188 = .ok (.aload_n 0, 1) := by decide +kernel
theorem dX8_holds_189 : decode cX8_holds 189 = .ok (.getfield 45, 3) := by decide +kernel
theorem dX8_holds_192 : decode cX8_holds 192 = .ok (.iload_n 3, 1) := by decide +kernel
theorem dX8_holds_193 : decode cX8_holds 193 = .ok (.iaload, 1) := by decide +kernel
theorem dX8_holds_194 : decode cX8_holds 194 = .ok (.invokevirtual 261, 3) := by decide +kernel
theorem dX8_holds_197 : decode cX8_holds 197 = .ok (.goto 25, 3) := by decide +kernel
theorem dX8_holds_200 : decode cX8_holds 200 = .ok (.aload_n 0, 1) := by decide +kernel
theorem dX8_holds_201 : decode cX8_holds 201 = .ok (.iload_n 1, 1) := by decide +kernel
theorem dX8_holds_202 : decode cX8_holds 202 = .ok (.iload 4, 2) := by decide +kernel
theorem dX8_holds_204 : decode cX8_holds 204 = .ok (.iconst 3, 1) := by decide +kernel
theorem dX8_holds_205 : decode cX8_holds 205 = .ok (.idiv, 1) := by decide +kernel
theorem dX8_holds_206 : decode cX8_holds 206 = .ok (.invokevirtual 264, 3) := by decide +kernel
theorem dX8_holds_209 : decode cX8_holds 209 = .ok (.iload 4, 2) := by decide +kernel
theorem dX8_holds_211 : decode cX8_holds 211 = .ok (.iconst 3, 1) := by decide +kernel
theorem dX8_holds_212 : decode cX8_holds 212 = .ok (.irem, 1) := by decide +kernel
theorem dX8_holds_213 : decode cX8_holds 213 = .ok (.aload_n 0, 1) := by decide +kernel
theorem dX8_holds_214 : decode cX8_holds 214 = .ok (.getfield 45, 3) := by decide +kernel
theorem dX8_holds_217 : decode cX8_holds 217 = .ok (.iload_n 3, 1) := by decide +kernel
theorem dX8_holds_218 : decode cX8_holds 218 = .ok (.iaload, 1) := by decide +kernel
theorem dX8_holds_219 : decode cX8_holds 219 = .ok (.invokestatic 268, 3) := by decide +kernel
theorem dX8_holds_222 : decode cX8_holds 222 = .ok (.bastore, 1) := by decide +kernel
theorem dX8_holds_223 : decode cX8_holds 223 = .ok (.iinc 2 1, 3) := by decide +kernel
theorem dX8_holds_226 : decode cX8_holds 226 = .ok (.iinc 3 1, 3) := by decide +kernel
theorem dX8_holds_229 : decode cX8_holds 229 = .ok (.goto (-221), 3) := by decide +kernel
theorem dX8_holds_232 : decode cX8_holds 232 = .ok (.aload_n 0, 1) := by decide +kernel
theorem dX8_holds_233 : decode cX8_holds 233 = .ok (.getfield 86, 3) := by decide +kernel
theorem dX8_holds_236 : decode cX8_holds 236 = .ok (.iconst 0, 1) := by decide +kernel
theorem dX8_holds_237 : decode cX8_holds 237 = .ok (.baload, 1) := by decide +kernel
theorem dX8_holds_238 : decode cX8_holds 238 = .ok (.ireturn, 1) := by decide +kernel
theorem dX8_compares_0 : decode cX8_compares 0 = .ok (.iload_n 1, 1) := by decide +kernel
theorem dX8_compares_1 : decode cX8_compares 1 = .ok (.ifCond .ne 16, 3) := by decide +kernel
theorem dX8_compares_4 : decode cX8_compares 4 = .ok (.iload_n 0, 1) := by decide +kernel
theorem dX8_compares_5 : decode cX8_compares 5 = .ok (.iload_n 2, 1) := by decide +kernel
theorem dX8_compares_6 : decode cX8_compares 6 = .ok (.if_icmp .ge 7, 3) := by decide +kernel
theorem dX8_compares_9 : decode cX8_compares 9 = .ok (.iconst 1, 1) := by decide +kernel
theorem dX8_compares_10 : decode cX8_compares 10 = .ok (.goto 35, 3) := by decide +kernel
theorem dX8_compares_13 : decode cX8_compares 13 = .ok (.iconst 0, 1) := by decide +kernel
theorem dX8_compares_14 : decode cX8_compares 14 = .ok (.goto 31, 3) := by decide +kernel
theorem dX8_compares_17 : decode cX8_compares 17 = .ok (.iload_n 1, 1) := by decide +kernel
theorem dX8_compares_18 : decode cX8_compares 18 = .ok (.iconst 1, 1) := by decide +kernel
theorem dX8_compares_19 : decode cX8_compares 19 = .ok (.if_icmp .ne 16, 3) := by decide +kernel
theorem dX8_compares_22 : decode cX8_compares 22 = .ok (.iload_n 0, 1) := by decide +kernel
theorem dX8_compares_23 : decode cX8_compares 23 = .ok (.iload_n 2, 1) := by decide +kernel
theorem dX8_compares_24 : decode cX8_compares 24 = .ok (.if_icmp .le 7, 3) := by decide +kernel
theorem dX8_compares_27 : decode cX8_compares 27 = .ok (.iconst 1, 1) := by decide +kernel
theorem dX8_compares_28 : decode cX8_compares 28 = .ok (.goto 17, 3) := by decide +kernel
theorem dX8_compares_31 : decode cX8_compares 31 = .ok (.iconst 0, 1) := by decide +kernel
theorem dX8_compares_32 : decode cX8_compares 32 = .ok (.goto 13, 3) := by decide +kernel
theorem dX8_compares_35 : decode cX8_compares 35 = .ok (.iload_n 0, 1) := by decide +kernel
theorem dX8_compares_36 : decode cX8_compares 36 = .ok (.iload_n 2, 1) := by decide +kernel
theorem dX8_compares_37 : decode cX8_compares 37 = .ok (.if_icmp .ne 7, 3) := by decide +kernel
theorem dX8_compares_40 : decode cX8_compares 40 = .ok (.iconst 1, 1) := by decide +kernel
theorem dX8_compares_41 : decode cX8_compares 41 = .ok (.goto 4, 3) := by decide +kernel
theorem dX8_compares_44 : decode cX8_compares 44 = .ok (.iconst 0, 1) := by decide +kernel
theorem dX8_compares_45 : decode cX8_compares 45 = .ok (.ireturn, 1) := by decide +kernel
theorem dX8_areKnown_0 : decode cX8_areKnown 0 = .ok (.iconst 1, 1) := by decide +kernel
theorem dX8_areKnown_1 : decode cX8_areKnown 1 = .ok (.istore_n 2, 1) := by decide +kernel
theorem dX8_areKnown_2 : decode cX8_areKnown 2 = .ok (.iconst 0, 1) := by decide +kernel
theorem dX8_areKnown_3 : decode cX8_areKnown 3 = .ok (.istore_n 3, 1) := by decide +kernel
theorem dX8_areKnown_4 : decode cX8_areKnown 4 = .ok (.iload_n 3, 1) := by decide +kernel
theorem dX8_areKnown_5 : decode cX8_areKnown 5 = .ok (.aload_n 0, 1) := by decide +kernel
theorem dX8_areKnown_6 : decode cX8_areKnown 6 = .ok (.getfield 120, 3) := by decide +kernel
theorem dX8_areKnown_9 : decode cX8_areKnown 9 = .ok (.if_icmp .ge 36, 3) := by decide +kernel
theorem dX8_areKnown_12 : decode cX8_areKnown 12 = .ok (.iload_n 2, 1) := by decide +kernel
theorem dX8_areKnown_13 : decode cX8_areKnown 13 = .ok (.ifCond .eq 24, 3) := by decide +kernel
theorem dX8_areKnown_16 : decode cX8_areKnown 16 = .ok (.iload_n 1, 1) := by decide +kernel
theorem dX8_areKnown_17 : decode cX8_areKnown 17 = .ok (.iload_n 3, 1) := by decide +kernel
theorem dX8_areKnown_18 : decode cX8_areKnown 18 = .ok (.ishr, 1) := by decide +kernel
theorem dX8_areKnown_19 : decode cX8_areKnown 19 = .ok (.iconst 1, 1) := by decide +kernel
theorem dX8_areKnown_20 : decode cX8_areKnown 20 = .ok (.iand, 1) := by decide +kernel
theorem dX8_areKnown_21 : decode cX8_areKnown 21 = .ok (.ifCond .eq 12, 3) := by decide +kernel
theorem dX8_areKnown_24 : decode cX8_areKnown 24 = .ok (.aload_n 0, 1) := by decide +kernel
theorem dX8_areKnown_25 : decode cX8_areKnown 25 = .ok (.getfield 80, 3) := by decide +kernel
theorem dX8_areKnown_28 : decode cX8_areKnown 28 = .ok (.iload_n 3, 1) := by decide +kernel
theorem dX8_areKnown_29 : decode cX8_areKnown 29 = .ok (.baload, 1) := by decide +kernel
theorem dX8_areKnown_30 : decode cX8_areKnown 30 = .ok (.ifCond .eq 7, 3) := by decide +kernel
theorem dX8_areKnown_33 : decode cX8_areKnown 33 = .ok (.iconst 1, 1) := by decide +kernel
theorem dX8_areKnown_34 : decode cX8_areKnown 34 = .ok (.goto 4, 3) := by decide +kernel
theorem dX8_areKnown_37 : decode cX8_areKnown 37 = .ok (.iconst 0, 1) := by decide +kernel
theorem dX8_areKnown_38 : decode cX8_areKnown 38 = .ok (.istore_n 2, 1) := by decide +kernel
theorem dX8_areKnown_39 : decode cX8_areKnown 39 = .ok (.iinc 3 1, 3) := by decide +kernel
theorem dX8_areKnown_42 : decode cX8_areKnown 42 = .ok (.goto (-38), 3) := by decide +kernel
theorem dX8_areKnown_45 : decode cX8_areKnown 45 = .ok (.iload_n 2, 1) := by decide +kernel
theorem dX8_areKnown_46 : decode cX8_areKnown 46 = .ok (.ireturn, 1) := by decide +kernel
theorem dX8_opens_0 : decode cX8_opens 0 = .ok (.iconst 0, 1) := by decide +kernel
theorem dX8_opens_1 : decode cX8_opens 1 = .ok (.istore_n 1, 1) := by decide +kernel
theorem dX8_opens_2 : decode cX8_opens 2 = .ok (.iload_n 1, 1) := by decide +kernel
theorem dX8_opens_3 : decode cX8_opens 3 = .ok (.aload_n 0, 1) := by decide +kernel
theorem dX8_opens_4 : decode cX8_opens 4 = .ok (.getfield 120, 3) := by decide +kernel
theorem dX8_opens_7 : decode cX8_opens 7 = .ok (.if_icmp .ge 16, 3) := by decide +kernel
theorem dX8_opens_10 : decode cX8_opens 10 = .ok (.aload_n 0, 1) := by decide +kernel
theorem dX8_opens_11 : decode cX8_opens 11 = .ok (.getfield 80, 3) := by decide +kernel
theorem dX8_opens_14 : decode cX8_opens 14 = .ok (.iload_n 1, 1) := by decide +kernel
theorem dX8_opens_15 : decode cX8_opens 15 = .ok (.iconst 0, 1) := by decide +kernel
theorem dX8_opens_16 : decode cX8_opens 16 = .ok (.bastore, 1) := by decide +kernel
theorem dX8_opens_17 : decode cX8_opens 17 = .ok (.iinc 1 1, 3) := by decide +kernel
theorem dX8_opens_20 : decode cX8_opens 20 = .ok (.goto (-18), 3) := by decide +kernel
theorem dX8_opens_23 : decode cX8_opens 23 = .ok (.iconst 0, 1) := by decide +kernel
theorem dX8_opens_24 : decode cX8_opens 24 = .ok (.istore_n 1, 1) := by decide +kernel
theorem dX8_opens_25 : decode cX8_opens 25 = .ok (.iload_n 1, 1) := by decide +kernel
theorem dX8_opens_26 : decode cX8_opens 26 = .ok (.aload_n 0, 1) := by decide +kernel
theorem dX8_opens_27 : decode cX8_opens 27 = .ok (.getfield 120, 3) := by decide +kernel
theorem dX8_opens_30 : decode cX8_opens 30 = .ok (.if_icmp .ge 93, 3) := by decide +kernel
theorem dX8_opens_33 : decode cX8_opens 33 = .ok (.iconst 0, 1) := by decide +kernel
theorem dX8_opens_34 : decode cX8_opens 34 = .ok (.istore_n 2, 1) := by decide +kernel
theorem dX8_opens_35 : decode cX8_opens 35 = .ok (.iload_n 2, 1) := by decide +kernel
theorem dX8_opens_36 : decode cX8_opens 36 = .ok (.aload_n 0, 1) := by decide +kernel
theorem dX8_opens_37 : decode cX8_opens 37 = .ok (.getfield 120, 3) := by decide +kernel
theorem dX8_opens_40 : decode cX8_opens 40 = .ok (.if_icmp .ge 77, 3) := by decide +kernel
theorem dX8_opens_43 : decode cX8_opens 43 = .ok (.aload_n 0, 1) := by decide +kernel
theorem dX8_opens_44 : decode cX8_opens 44 = .ok (.getfield 80, 3) := by decide +kernel
theorem dX8_opens_47 : decode cX8_opens 47 = .ok (.iload_n 2, 1) := by decide +kernel
theorem dX8_opens_48 : decode cX8_opens 48 = .ok (.baload, 1) := by decide +kernel
theorem dX8_opens_49 : decode cX8_opens 49 = .ok (.ifCond .ne 62, 3) := by decide +kernel
theorem dX8_opens_52 : decode cX8_opens 52 = .ok (.aload_n 0, 1) := by decide +kernel
theorem dX8_opens_53 : decode cX8_opens 53 = .ok (.getfield 51, 3) := by decide +kernel
theorem dX8_opens_56 : decode cX8_opens 56 = .ok (.iload_n 2, 1) := by decide +kernel
theorem dX8_opens_57 : decode cX8_opens 57 = .ok (.baload, 1) := by decide +kernel
theorem dX8_opens_58 : decode cX8_opens 58 = .ok (.ifCond .eq 18, 3) := by decide +kernel
theorem dX8_opens_61 : decode cX8_opens 61 = .ok (.aload_n 0, 1) := by decide +kernel
theorem dX8_opens_62 : decode cX8_opens 62 = .ok (.aload_n 0, 1) := by decide +kernel
theorem dX8_opens_63 : decode cX8_opens 63 = .ok (.iload_n 2, 1) := by decide +kernel
theorem dX8_opens_64 : decode cX8_opens 64 = .ok (.invokevirtual 240, 3) := by decide +kernel
theorem dX8_opens_67 : decode cX8_opens 67 = .ok (.invokevirtual 272, 3) := by decide +kernel
theorem dX8_opens_70 : decode cX8_opens 70 = .ok (.ifCond .ne 6, 3) := by decide +kernel
theorem dX8_opens_73 : decode cX8_opens 73 = .ok (.goto 38, 3) := by decide +kernel
theorem dX8_opens_76 : decode cX8_opens 76 = .ok (.aload_n 0, 1) := by decide +kernel
theorem dX8_opens_77 : decode cX8_opens 77 = .ok (.getfield 83, 3) := by decide +kernel
theorem dX8_opens_80 : decode cX8_opens 80 = .ok (.iload_n 2, 1) := by decide +kernel
theorem dX8_opens_81 : decode cX8_opens 81 = .ok (.aload_n 0, 1) := by decide +kernel
theorem dX8_opens_82 : decode cX8_opens 82 = .ok (.getfield 51, 3) := by decide +kernel
theorem dX8_opens_85 : decode cX8_opens 85 = .ok (.iload_n 2, 1) := by decide +kernel
theorem dX8_opens_86 : decode cX8_opens 86 = .ok (.baload, 1) := by decide +kernel
theorem dX8_opens_87 : decode cX8_opens 87 = .ok (.ifCond .eq 11, 3) := by decide +kernel
theorem dX8_opens_90 : decode cX8_opens 90 = .ok (.aload_n 0, 1) := by decide +kernel
theorem dX8_opens_91 : decode cX8_opens 91 = .ok (.iload_n 2, 1) := by decide +kernel
theorem dX8_opens_92 : decode cX8_opens 92 = .ok (.invokevirtual 275, 3) := by decide +kernel
theorem dX8_opens_95 : decode cX8_opens 95 = .ok (.ifCond .eq 7, 3) := by decide +kernel
theorem dX8_opens_98 : decode cX8_opens 98 = .ok (.iconst 1, 1) := by decide +kernel
theorem dX8_opens_99 : decode cX8_opens 99 = .ok (.goto 4, 3) := by decide +kernel
theorem dX8_opens_102 : decode cX8_opens 102 = .ok (.iconst 0, 1) := by decide +kernel
theorem dX8_opens_103 : decode cX8_opens 103 = .ok (.bastore, 1) := by decide +kernel
theorem dX8_opens_104 : decode cX8_opens 104 = .ok (.aload_n 0, 1) := by decide +kernel
theorem dX8_opens_105 : decode cX8_opens 105 = .ok (.getfield 80, 3) := by decide +kernel
theorem dX8_opens_108 : decode cX8_opens 108 = .ok (.iload_n 2, 1) := by decide +kernel
theorem dX8_opens_109 : decode cX8_opens 109 = .ok (.iconst 1, 1) := by decide +kernel
theorem dX8_opens_110 : decode cX8_opens 110 = .ok (.bastore, 1) := by decide +kernel
theorem dX8_opens_111 : decode cX8_opens 111 = .ok (.iinc 2 1, 3) := by decide +kernel
theorem dX8_opens_114 : decode cX8_opens 114 = .ok (.goto (-79), 3) := by decide +kernel
theorem dX8_opens_117 : decode cX8_opens 117 = .ok (.iinc 1 1, 3) := by decide +kernel
theorem dX8_opens_120 : decode cX8_opens 120 = .ok (.goto (-95), 3) := by decide +kernel
theorem dX8_opens_123 : decode cX8_opens 123 = .ok (.return_, 1) := by decide +kernel
theorem dX8_open_0 : decode cX8_open 0 = .ok (.aload_n 0, 1) := by decide +kernel
theorem dX8_open_1 : decode cX8_open 1 = .ok (.iconst 0, 1) := by decide +kernel
theorem dX8_open_2 : decode cX8_open 2 = .ok (.putfield 110, 3) := by decide +kernel
theorem dX8_open_5 : decode cX8_open 5 = .ok (.aload_n 0, 1) := by decide +kernel
theorem dX8_open_6 : decode cX8_open 6 = .ok (.aload_n 0, 1) := by decide +kernel
theorem dX8_open_7 : decode cX8_open 7 = .ok (.iload_n 1, 1) := by decide +kernel
theorem dX8_open_8 : decode cX8_open 8 = .ok (.invokevirtual 234, 3) := by decide +kernel
theorem dX8_open_11 : decode cX8_open 11 = .ok (.iconst 1, 1) := by decide +kernel
theorem dX8_open_12 : decode cX8_open 12 = .ok (.invokevirtual 138, 3) := by decide +kernel
theorem dX8_open_15 : decode cX8_open 15 = .ok (.ifCond .eq 5, 3) := by decide +kernel
theorem dX8_open_18 : decode cX8_open 18 = .ok (.iconst 0, 1) := by decide +kernel
theorem dX8_open_19 : decode cX8_open 19 = .ok (.ireturn, 1) := by decide +kernel
theorem dX8_open_20 : decode cX8_open 20 = .ok (.aload_n 0, 1) := by decide +kernel
theorem dX8_open_21 : decode cX8_open 21 = .ok (.invokevirtual 278, 3) := by decide +kernel
theorem dX8_open_24 : decode cX8_open 24 = .ok (.aload_n 0, 1) := by decide +kernel
theorem dX8_open_25 : decode cX8_open 25 = .ok (.getfield 83, 3) := by decide +kernel
theorem dX8_open_28 : decode cX8_open 28 = .ok (.iload_n 1, 1) := by decide +kernel
theorem dX8_open_29 : decode cX8_open 29 = .ok (.baload, 1) := by decide +kernel
theorem dX8_open_30 : decode cX8_open 30 = .ok (.ireturn, 1) := by decide +kernel
theorem dX8_runs_0 : decode cX8_runs 0 = .ok (.aload_n 0, 1) := by decide +kernel
theorem dX8_runs_1 : decode cX8_runs 1 = .ok (.iconst 0, 1) := by decide +kernel
theorem dX8_runs_2 : decode cX8_runs 2 = .ok (.putfield 110, 3) := by decide +kernel
theorem dX8_runs_5 : decode cX8_runs 5 = .ok (.aload_n 0, 1) := by decide +kernel
theorem dX8_runs_6 : decode cX8_runs 6 = .ok (.aload_n 0, 1) := by decide +kernel
theorem dX8_runs_7 : decode cX8_runs 7 = .ok (.iload_n 1, 1) := by decide +kernel
theorem dX8_runs_8 : decode cX8_runs 8 = .ok (.invokevirtual 237, 3) := by decide +kernel
theorem dX8_runs_11 : decode cX8_runs 11 = .ok (.iconst 1, 1) := by decide +kernel
theorem dX8_runs_12 : decode cX8_runs 12 = .ok (.invokevirtual 138, 3) := by decide +kernel
theorem dX8_runs_15 : decode cX8_runs 15 = .ok (.ifCond .ne 15, 3) := by decide +kernel
theorem dX8_runs_18 : decode cX8_runs 18 = .ok (.aload_n 0, 1) := by decide +kernel
theorem dX8_runs_19 : decode cX8_runs 19 = .ok (.iload_n 1, 1) := by decide +kernel
theorem dX8_runs_20 : decode cX8_runs 20 = .ok (.invokevirtual 261, 3) := by decide +kernel
theorem dX8_runs_23 : decode cX8_runs 23 = .ok (.ifCond .eq 7, 3) := by decide +kernel
theorem dX8_runs_26 : decode cX8_runs 26 = .ok (.iconst 1, 1) := by decide +kernel
theorem dX8_runs_27 : decode cX8_runs 27 = .ok (.goto 4, 3) := by decide +kernel
theorem dX8_runs_30 : decode cX8_runs 30 = .ok (.iconst 0, 1) := by decide +kernel
theorem dX8_runs_31 : decode cX8_runs 31 = .ok (.ireturn, 1) := by decide +kernel
theorem dX8_wind_0 : decode cX8_wind 0 = .ok (.aload_n 0, 1) := by decide +kernel
theorem dX8_wind_1 : decode cX8_wind 1 = .ok (.iconst 0, 1) := by decide +kernel
theorem dX8_wind_2 : decode cX8_wind 2 = .ok (.putfield 110, 3) := by decide +kernel
theorem dX8_wind_5 : decode cX8_wind 5 = .ok (.aload_n 0, 1) := by decide +kernel
theorem dX8_wind_6 : decode cX8_wind 6 = .ok (.iload_n 1, 1) := by decide +kernel
theorem dX8_wind_7 : decode cX8_wind 7 = .ok (.i2l, 1) := by decide +kernel
theorem dX8_wind_8 : decode cX8_wind 8 = .ok (.lconst 0, 1) := by decide +kernel
theorem dX8_wind_9 : decode cX8_wind 9 = .ok (.ldc2_w 281, 3) := by decide +kernel
theorem dX8_wind_12 : decode cX8_wind 12 = .ok (.invokestatic 116, 3) := by decide +kernel
theorem dX8_wind_15 : decode cX8_wind 15 = .ok (.ifCond .ne 7, 3) := by decide +kernel
theorem dX8_wind_18 : decode cX8_wind 18 = .ok (.iconst 1, 1) := by decide +kernel
theorem dX8_wind_19 : decode cX8_wind 19 = .ok (.goto 4, 3) := by decide +kernel
theorem dX8_wind_22 : decode cX8_wind 22 = .ok (.iconst 0, 1) := by decide +kernel
theorem dX8_wind_23 : decode cX8_wind 23 = .ok (.iconst 1, 1) := by decide +kernel
theorem dX8_wind_24 : decode cX8_wind 24 = .ok (.invokevirtual 138, 3) := by decide +kernel
theorem dX8_wind_27 : decode cX8_wind 27 = .ok (.ifCond .eq 4, 3) := by decide +kernel
theorem dX8_wind_30 : decode cX8_wind 30 = .ok (.return_, 1) := by decide +kernel
theorem dX8_wind_31 : decode cX8_wind 31 = .ok (.aload_n 0, 1) := by decide +kernel
theorem dX8_wind_32 : decode cX8_wind 32 = .ok (.iload_n 1, 1) := by decide +kernel
theorem dX8_wind_33 : decode cX8_wind 33 = .ok (.putfield 150, 3) := by decide +kernel
theorem dX8_wind_36 : decode cX8_wind 36 = .ok (.return_, 1) := by decide +kernel
theorem dX8_stop_0 : decode cX8_stop 0 = .ok (.aload_n 0, 1) := by decide +kernel
theorem dX8_stop_1 : decode cX8_stop 1 = .ok (.iconst 0, 1) := by decide +kernel
theorem dX8_stop_2 : decode cX8_stop 2 = .ok (.putfield 110, 3) := by decide +kernel
theorem dX8_stop_5 : decode cX8_stop 5 = .ok (.aload_n 0, 1) := by decide +kernel
theorem dX8_stop_6 : decode cX8_stop 6 = .ok (.aload_n 0, 1) := by decide +kernel
theorem dX8_stop_7 : decode cX8_stop 7 = .ok (.iload_n 1, 1) := by decide +kernel
theorem dX8_stop_8 : decode cX8_stop 8 = .ok (.invokevirtual 237, 3) := by decide +kernel
theorem dX8_stop_11 : decode cX8_stop 11 = .ok (.iconst 1, 1) := by decide +kernel
theorem dX8_stop_12 : decode cX8_stop 12 = .ok (.invokevirtual 138, 3) := by decide +kernel
theorem dX8_stop_15 : decode cX8_stop 15 = .ok (.ifCond .eq 5, 3) := by decide +kernel
theorem dX8_stop_18 : decode cX8_stop 18 = .ok (.iconst 0, 1) := by decide +kernel
theorem dX8_stop_19 : decode cX8_stop 19 = .ok (.ireturn, 1) := by decide +kernel
theorem dX8_stop_20 : decode cX8_stop 20 = .ok (.aload_n 0, 1) := by decide +kernel
theorem dX8_stop_21 : decode cX8_stop 21 = .ok (.getfield 17, 3) := by decide +kernel
theorem dX8_stop_24 : decode cX8_stop 24 = .ok (.iload_n 1, 1) := by decide +kernel
theorem dX8_stop_25 : decode cX8_stop 25 = .ok (.baload, 1) := by decide +kernel
theorem dX8_stop_26 : decode cX8_stop 26 = .ok (.istore_n 3, 1) := by decide +kernel
theorem dX8_stop_27 : decode cX8_stop 27 = .ok (.aload_n 0, 1) := by decide +kernel
theorem dX8_stop_28 : decode cX8_stop 28 = .ok (.getfield 17, 3) := by decide +kernel
theorem dX8_stop_31 : decode cX8_stop 31 = .ok (.iload_n 1, 1) := by decide +kernel
theorem dX8_stop_32 : decode cX8_stop 32 = .ok (.iload_n 2, 1) := by decide +kernel
theorem dX8_stop_33 : decode cX8_stop 33 = .ok (.bastore, 1) := by decide +kernel
theorem dX8_stop_34 : decode cX8_stop 34 = .ok (.iload_n 3, 1) := by decide +kernel
theorem dX8_stop_35 : decode cX8_stop 35 = .ok (.iload_n 2, 1) := by decide +kernel
theorem dX8_stop_36 : decode cX8_stop 36 = .ok (.if_icmp .eq 7, 3) := by decide +kernel
theorem dX8_stop_39 : decode cX8_stop 39 = .ok (.iconst 1, 1) := by decide +kernel
theorem dX8_stop_40 : decode cX8_stop 40 = .ok (.goto 4, 3) := by decide +kernel
theorem dX8_stop_43 : decode cX8_stop 43 = .ok (.iconst 0, 1) := by decide +kernel
theorem dX8_stop_44 : decode cX8_stop 44 = .ok (.ireturn, 1) := by decide +kernel
theorem dX8_group_0 : decode cX8_group 0 = .ok (.aload_n 0, 1) := by decide +kernel
theorem dX8_group_1 : decode cX8_group 1 = .ok (.iconst 0, 1) := by decide +kernel
theorem dX8_group_2 : decode cX8_group 2 = .ok (.putfield 110, 3) := by decide +kernel
theorem dX8_group_5 : decode cX8_group 5 = .ok (.aload_n 0, 1) := by decide +kernel
theorem dX8_group_6 : decode cX8_group 6 = .ok (.iload_n 3, 1) := by decide +kernel
theorem dX8_group_7 : decode cX8_group 7 = .ok (.invokestatic 134, 3) := by decide +kernel
theorem dX8_group_10 : decode cX8_group 10 = .ok (.iconst 1, 1) := by decide +kernel
theorem dX8_group_11 : decode cX8_group 11 = .ok (.invokevirtual 138, 3) := by decide +kernel
theorem dX8_group_14 : decode cX8_group 14 = .ok (.ifCond .ne 62, 3) := by decide +kernel
theorem dX8_group_17 : decode cX8_group 17 = .ok (.aload_n 0, 1) := by decide +kernel
theorem dX8_group_18 : decode cX8_group 18 = .ok (.iload_n 1, 1) := by decide +kernel
theorem dX8_group_19 : decode cX8_group 19 = .ok (.i2l, 1) := by decide +kernel
theorem dX8_group_20 : decode cX8_group 20 = .ok (.lconst 1, 1) := by decide +kernel
theorem dX8_group_21 : decode cX8_group 21 = .ok (.ldc2_w 148, 3) := by decide +kernel
theorem dX8_group_24 : decode cX8_group 24 = .ok (.invokestatic 116, 3) := by decide +kernel
theorem dX8_group_27 : decode cX8_group 27 = .ok (.ifCond .eq 15, 3) := by decide +kernel
theorem dX8_group_30 : decode cX8_group 30 = .ok (.iload_n 2, 1) := by decide +kernel
theorem dX8_group_31 : decode cX8_group 31 = .ok (.i2l, 1) := by decide +kernel
theorem dX8_group_32 : decode cX8_group 32 = .ok (.lconst 0, 1) := by decide +kernel
theorem dX8_group_33 : decode cX8_group 33 = .ok (.ldc2_w 129, 3) := by decide +kernel
theorem dX8_group_36 : decode cX8_group 36 = .ok (.invokestatic 116, 3) := by decide +kernel
theorem dX8_group_39 : decode cX8_group 39 = .ok (.ifCond .ne 7, 3) := by decide +kernel
theorem dX8_group_42 : decode cX8_group 42 = .ok (.iconst 1, 1) := by decide +kernel
theorem dX8_group_43 : decode cX8_group 43 = .ok (.goto 4, 3) := by decide +kernel
theorem dX8_group_46 : decode cX8_group 46 = .ok (.iconst 0, 1) := by decide +kernel
theorem dX8_group_47 : decode cX8_group 47 = .ok (.iconst 2, 1) := by decide +kernel
theorem dX8_group_48 : decode cX8_group 48 = .ok (.invokevirtual 138, 3) := by decide +kernel
theorem dX8_group_51 : decode cX8_group 51 = .ok (.ifCond .ne 25, 3) := by decide +kernel
theorem dX8_group_54 : decode cX8_group 54 = .ok (.aload_n 0, 1) := by decide +kernel
theorem dX8_group_55 : decode cX8_group 55 = .ok (.aload_n 0, 1) := by decide +kernel
theorem dX8_group_56 : decode cX8_group 56 = .ok (.getfield 126, 3) := by decide +kernel
theorem dX8_group_59 : decode cX8_group 59 = .ok (.bipush 60, 2) := by decide +kernel
theorem dX8_group_61 : decode cX8_group 61 = .ok (.if_icmp .ne 7, 3) := by decide +kernel
theorem dX8_group_64 : decode cX8_group 64 = .ok (.iconst 1, 1) := by decide +kernel
theorem dX8_group_65 : decode cX8_group 65 = .ok (.goto 4, 3) := by decide +kernel
theorem dX8_group_68 : decode cX8_group 68 = .ok (.iconst 0, 1) := by decide +kernel
theorem dX8_group_69 : decode cX8_group 69 = .ok (.iconst 3, 1) := by decide +kernel
theorem dX8_group_70 : decode cX8_group 70 = .ok (.invokevirtual 138, 3) := by decide +kernel
theorem dX8_group_73 : decode cX8_group 73 = .ok (.ifCond .eq 5, 3) := by decide +kernel
theorem dX8_group_76 : decode cX8_group 76 = .ok (.iconst 0, 1) := by decide +kernel
theorem dX8_group_77 : decode cX8_group 77 = .ok (.ireturn, 1) := by decide +kernel
theorem dX8_group_78 : decode cX8_group 78 = .ok (.bipush 7, 2) := by decide +kernel
theorem dX8_group_80 : decode cX8_group 80 = .ok (.aload_n 0, 1) := by decide +kernel
theorem dX8_group_81 : decode cX8_group 81 = .ok (.getfield 126, 3) := by decide +kernel
theorem dX8_group_84 : decode cX8_group 84 = .ok (.imul, 1) := by decide +kernel
theorem dX8_group_85 : decode cX8_group 85 = .ok (.istore 4, 2) := by decide +kernel
theorem dX8_group_87 : decode cX8_group 87 = .ok (.aload_n 0, 1) := by decide +kernel
theorem dX8_group_88 : decode cX8_group 88 = .ok (.getfield 58, 3) := by decide +kernel
theorem dX8_group_91 : decode cX8_group 91 = .ok (.iload 4, 2) := by decide +kernel
theorem dX8_group_93 : decode cX8_group 93 = .ok (.iload_n 1, 1) := by decide +kernel
theorem dX8_group_94 : decode cX8_group 94 = .ok (.iastore, 1) := by decide +kernel
theorem dX8_group_95 : decode cX8_group 95 = .ok (.aload_n 0, 1) := by decide +kernel
theorem dX8_group_96 : decode cX8_group 96 = .ok (.getfield 58, 3) := by decide +kernel
theorem dX8_group_99 : decode cX8_group 99 = .ok (.iload 4, 2) := by decide +kernel
theorem dX8_group_101 : decode cX8_group 101 = .ok (.iconst 1, 1) := by decide +kernel
theorem dX8_group_102 : decode cX8_group 102 = .ok (.iadd, 1) := by decide +kernel
theorem dX8_group_103 : decode cX8_group 103 = .ok (.iload_n 2, 1) := by decide +kernel
theorem dX8_group_104 : decode cX8_group 104 = .ok (.iastore, 1) := by decide +kernel
theorem dX8_group_105 : decode cX8_group 105 = .ok (.aload_n 0, 1) := by decide +kernel
theorem dX8_group_106 : decode cX8_group 106 = .ok (.getfield 58, 3) := by decide +kernel
theorem dX8_group_109 : decode cX8_group 109 = .ok (.iload 4, 2) := by decide +kernel
theorem dX8_group_111 : decode cX8_group 111 = .ok (.iconst 2, 1) := by decide +kernel
theorem dX8_group_112 : decode cX8_group 112 = .ok (.iadd, 1) := by decide +kernel
theorem dX8_group_113 : decode cX8_group 113 = .ok (.iconst 0, 1) := by decide +kernel
theorem dX8_group_114 : decode cX8_group 114 = .ok (.iastore, 1) := by decide +kernel
theorem dX8_group_115 : decode cX8_group 115 = .ok (.aload_n 0, 1) := by decide +kernel
theorem dX8_group_116 : decode cX8_group 116 = .ok (.getfield 58, 3) := by decide +kernel
theorem dX8_group_119 : decode cX8_group 119 = .ok (.iload 4, 2) := by decide +kernel
theorem dX8_group_121 : decode cX8_group 121 = .ok (.iconst 3, 1) := by decide +kernel
theorem dX8_group_122 : decode cX8_group 122 = .ok (.iadd, 1) := by decide +kernel
theorem dX8_group_123 : decode cX8_group 123 = .ok (.iload_n 3, 1) := by decide +kernel
theorem dX8_group_124 : decode cX8_group 124 = .ok (.iastore, 1) := by decide +kernel
theorem dX8_group_125 : decode cX8_group 125 = .ok (.aload_n 0, 1) := by decide +kernel
theorem dX8_group_126 : decode cX8_group 126 = .ok (.dup, 1) := by decide +kernel
theorem dX8_group_127 : decode cX8_group 127 = .ok (.getfield 126, 3) := by decide +kernel
theorem dX8_group_130 : decode cX8_group 130 = .ok (.iconst 1, 1) := by decide +kernel
theorem dX8_group_131 : decode cX8_group 131 = .ok (.iadd, 1) := by decide +kernel
theorem dX8_group_132 : decode cX8_group 132 = .ok (.putfield 126, 3) := by decide +kernel
