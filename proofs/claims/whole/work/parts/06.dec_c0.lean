abbrev cX5_in : ByteArray := prog_7_method_2_code
abbrev mX5_in : MethodName := { cls := "KinInTheHeapModel", name := "in", desc := "(JJJ)Z" }
theorem mwX5_in : MWS mX5_in (.code mX5_in cX5_in 6 (some .boolean)) 3 := ⟨w1086, w1085, w103, by decide +kernel⟩
theorem dX5_in_0 : decode cX5_in 0 = .ok (.lload_n 0, 1) := by decide +kernel
theorem dX5_in_1 : decode cX5_in 1 = .ok (.lload_n 2, 1) := by decide +kernel
theorem dX5_in_2 : decode cX5_in 2 = .ok (.lcmp, 1) := by decide +kernel
theorem dX5_in_3 : decode cX5_in 3 = .ok (.ifCond .lt 14, 3) := by decide +kernel
theorem dX5_in_6 : decode cX5_in 6 = .ok (.lload_n 0, 1) := by decide +kernel
theorem dX5_in_7 : decode cX5_in 7 = .ok (.lload 4, 2) := by decide +kernel
theorem dX5_in_9 : decode cX5_in 9 = .ok (.lcmp, 1) := by decide +kernel
theorem dX5_in_10 : decode cX5_in 10 = .ok (.ifCond .gt 7, 3) := by decide +kernel
theorem dX5_in_13 : decode cX5_in 13 = .ok (.iconst 1, 1) := by decide +kernel
theorem dX5_in_14 : decode cX5_in 14 = .ok (.goto 4, 3) := by decide +kernel
theorem dX5_in_17 : decode cX5_in 17 = .ok (.iconst 0, 1) := by decide +kernel
theorem dX5_in_18 : decode cX5_in 18 = .ok (.ireturn, 1) := by decide +kernel
abbrev cX5_within : ByteArray := prog_7_method_3_code
abbrev mX5_within : MethodName := { cls := "KinInTheHeapModel", name := "within", desc := "(III)I" }
theorem mwX5_within : MWS mX5_within (.code mX5_within cX5_within 3 (some .int)) 3 := ⟨w1199, w1198, w103, by decide +kernel⟩
theorem dX5_within_0 : decode cX5_within 0 = .ok (.iload_n 0, 1) := by decide +kernel
theorem dX5_within_1 : decode cX5_within 1 = .ok (.iload_n 1, 1) := by decide +kernel
theorem dX5_within_2 : decode cX5_within 2 = .ok (.if_icmp .ge 7, 3) := by decide +kernel
theorem dX5_within_5 : decode cX5_within 5 = .ok (.iload_n 1, 1) := by decide +kernel
theorem dX5_within_6 : decode cX5_within 6 = .ok (.goto 13, 3) := by decide +kernel
theorem dX5_within_9 : decode cX5_within 9 = .ok (.iload_n 0, 1) := by decide +kernel
theorem dX5_within_10 : decode cX5_within 10 = .ok (.iload_n 2, 1) := by decide +kernel
theorem dX5_within_11 : decode cX5_within 11 = .ok (.if_icmp .le 7, 3) := by decide +kernel
theorem dX5_within_14 : decode cX5_within 14 = .ok (.iload_n 2, 1) := by decide +kernel
theorem dX5_within_15 : decode cX5_within 15 = .ok (.goto 4, 3) := by decide +kernel
theorem dX5_within_18 : decode cX5_within 18 = .ok (.iload_n 0, 1) := by decide +kernel
theorem dX5_within_19 : decode cX5_within 19 = .ok (.ireturn, 1) := by decide +kernel
abbrev cX5_init : ByteArray := prog_7_method_4_code
abbrev mX5_init : MethodName := { cls := "KinInTheHeapModel", name := "<init>", desc := "()V" }
theorem dX5_init_0 : decode cX5_init 0 = .ok (.aload_n 0, 1) := by decide +kernel
theorem dX5_init_1 : decode cX5_init 1 = .ok (.invokespecial 7, 3) := by decide +kernel
theorem dX5_init_4 : decode cX5_init 4 = .ok (.aload_n 0, 1) := by decide +kernel
theorem dX5_init_5 : decode cX5_init 5 = .ok (.sipush 960, 3) := by decide +kernel
theorem dX5_init_8 : decode cX5_init 8 = .ok (.newarray .int, 2) := by decide +kernel
theorem dX5_init_10 : decode cX5_init 10 = .ok (.putfield 13, 3) := by decide +kernel
theorem dX5_init_13 : decode cX5_init 13 = .ok (.aload_n 0, 1) := by decide +kernel
theorem dX5_init_14 : decode cX5_init 14 = .ok (.bipush 6, 2) := by decide +kernel
theorem dX5_init_16 : decode cX5_init 16 = .ok (.newarray .int, 2) := by decide +kernel
theorem dX5_init_18 : decode cX5_init 18 = .ok (.putfield 17, 3) := by decide +kernel
theorem dX5_init_21 : decode cX5_init 21 = .ok (.aload_n 0, 1) := by decide +kernel
theorem dX5_init_22 : decode cX5_init 22 = .ok (.sipush 160, 3) := by decide +kernel
theorem dX5_init_25 : decode cX5_init 25 = .ok (.newarray .int, 2) := by decide +kernel
theorem dX5_init_27 : decode cX5_init 27 = .ok (.putfield 20, 3) := by decide +kernel
theorem dX5_init_30 : decode cX5_init 30 = .ok (.aload_n 0, 1) := by decide +kernel
theorem dX5_init_31 : decode cX5_init 31 = .ok (.iconst 3, 1) := by decide +kernel
theorem dX5_init_32 : decode cX5_init 32 = .ok (.putfield 23, 3) := by decide +kernel
theorem dX5_init_35 : decode cX5_init 35 = .ok (.aload_n 0, 1) := by decide +kernel
theorem dX5_init_36 : decode cX5_init 36 = .ok (.bipush 36, 2) := by decide +kernel
theorem dX5_init_38 : decode cX5_init 38 = .ok (.newarray .int, 2) := by decide +kernel
theorem dX5_init_40 : decode cX5_init 40 = .ok (.putfield 26, 3) := by decide +kernel
theorem dX5_init_43 : decode cX5_init 43 = .ok (.aload_n 0, 1) := by decide +kernel
theorem dX5_init_44 : decode cX5_init 44 = .ok (.bipush 8, 2) := by decide +kernel
theorem dX5_init_46 : decode cX5_init 46 = .ok (.newarray .int, 2) := by decide +kernel
theorem dX5_init_48 : decode cX5_init 48 = .ok (.putfield 29, 3) := by decide +kernel
theorem dX5_init_51 : decode cX5_init 51 = .ok (.aload_n 0, 1) := by decide +kernel
theorem dX5_init_52 : decode cX5_init 52 = .ok (.bipush 8, 2) := by decide +kernel
theorem dX5_init_54 : decode cX5_init 54 = .ok (.newarray .int, 2) := by decide +kernel
theorem dX5_init_56 : decode cX5_init 56 = .ok (.putfield 32, 3) := by decide +kernel
theorem dX5_init_59 : decode cX5_init 59 = .ok (.aload_n 0, 1) := by decide +kernel
theorem dX5_init_60 : decode cX5_init 60 = .ok (.bipush 8, 2) := by decide +kernel
theorem dX5_init_62 : decode cX5_init 62 = .ok (.newarray .int, 2) := by decide +kernel
theorem dX5_init_64 : decode cX5_init 64 = .ok (.putfield 35, 3) := by decide +kernel
theorem dX5_init_67 : decode cX5_init 67 = .ok (.aload_n 0, 1) := by decide +kernel
theorem dX5_init_68 : decode cX5_init 68 = .ok (.bipush 8, 2) := by decide +kernel
theorem dX5_init_70 : decode cX5_init 70 = .ok (.newarray .int, 2) := by decide +kernel
theorem dX5_init_72 : decode cX5_init 72 = .ok (.putfield 38, 3) := by decide +kernel
theorem dX5_init_75 : decode cX5_init 75 = .ok (.aload_n 0, 1) := by decide +kernel
theorem dX5_init_76 : decode cX5_init 76 = .ok (.bipush 8, 2) := by decide +kernel
theorem dX5_init_78 : decode cX5_init 78 = .ok (.newarray .int, 2) := by decide +kernel
theorem dX5_init_80 : decode cX5_init 80 = .ok (.putfield 41, 3) := by decide +kernel
theorem dX5_init_83 : decode cX5_init 83 = .ok (.aload_n 0, 1) := by decide +kernel
theorem dX5_init_84 : decode cX5_init 84 = .ok (.bipush 36, 2) := by decide +kernel
theorem dX5_init_86 : decode cX5_init 86 = .ok (.newarray .int, 2) := by decide +kernel
theorem dX5_init_88 : decode cX5_init 88 = .ok (.putfield 44, 3) := by decide +kernel
theorem dX5_init_91 : decode cX5_init 91 = .ok (.aload_n 0, 1) := by decide +kernel
theorem dX5_init_92 : decode cX5_init 92 = .ok (.bipush 8, 2) := by decide +kernel
theorem dX5_init_94 : decode cX5_init 94 = .ok (.newarray .int, 2) := by decide +kernel
theorem dX5_init_96 : decode cX5_init 96 = .ok (.putfield 47, 3) := by decide +kernel
theorem dX5_init_99 : decode cX5_init 99 = .ok (.aload_n 0, 1) := by decide +kernel
theorem dX5_init_100 : decode cX5_init 100 = .ok (.bipush 8, 2) := by decide +kernel
theorem dX5_init_102 : decode cX5_init 102 = .ok (.newarray .int, 2) := by decide +kernel
theorem dX5_init_104 : decode cX5_init 104 = .ok (.putfield 50, 3) := by decide +kernel
theorem dX5_init_107 : decode cX5_init 107 = .ok (.aload_n 0, 1) := by decide +kernel
theorem dX5_init_108 : decode cX5_init 108 = .ok (.iconst (-1), 1) := by decide +kernel
theorem dX5_init_109 : decode cX5_init 109 = .ok (.putfield 53, 3) := by decide +kernel
theorem dX5_init_112 : decode cX5_init 112 = .ok (.aload_n 0, 1) := by decide +kernel
theorem dX5_init_113 : decode cX5_init 113 = .ok (.iconst 4, 1) := by decide +kernel
theorem dX5_init_114 : decode cX5_init 114 = .ok (.newarray .boolean, 2) := by decide +kernel
theorem dX5_init_116 : decode cX5_init 116 = .ok (.putfield 56, 3) := by decide +kernel
theorem dX5_init_119 : decode cX5_init 119 = .ok (.aload_n 0, 1) := by decide +kernel
theorem dX5_init_120 : decode cX5_init 120 = .ok (.iconst 4, 1) := by decide +kernel
theorem dX5_init_121 : decode cX5_init 121 = .ok (.newarray .int, 2) := by decide +kernel
theorem dX5_init_123 : decode cX5_init 123 = .ok (.putfield 60, 3) := by decide +kernel
theorem dX5_init_126 : decode cX5_init 126 = .ok (.aload_n 0, 1) := by decide +kernel
theorem dX5_init_127 : decode cX5_init 127 = .ok (.iconst 4, 1) := by decide +kernel
theorem dX5_init_128 : decode cX5_init 128 = .ok (.newarray .int, 2) := by decide +kernel
theorem dX5_init_130 : decode cX5_init 130 = .ok (.putfield 63, 3) := by decide +kernel
theorem dX5_init_133 : decode cX5_init 133 = .ok (.aload_n 0, 1) := by decide +kernel
theorem dX5_init_134 : decode cX5_init 134 = .ok (.sipush 160, 3) := by decide +kernel
theorem dX5_init_137 : decode cX5_init 137 = .ok (.newarray .int, 2) := by decide +kernel
theorem dX5_init_139 : decode cX5_init 139 = .ok (.putfield 66, 3) := by decide +kernel
theorem dX5_init_142 : decode cX5_init 142 = .ok (.aload_n 0, 1) := by decide +kernel
theorem dX5_init_143 : decode cX5_init 143 = .ok (.iconst 0, 1) := by decide +kernel
theorem dX5_init_144 : decode cX5_init 144 = .ok (.bipush 103, 2) := by decide +kernel
theorem dX5_init_146 : decode cX5_init 146 = .ok (.bipush 111, 2) := by decide +kernel
theorem dX5_init_148 : decode cX5_init 148 = .ok (.bipush 101, 2) := by decide +kernel
theorem dX5_init_150 : decode cX5_init 150 = .ok (.bipush 115, 2) := by decide +kernel
theorem dX5_init_152 : decode cX5_init 152 = .ok (.bipush 32, 2) := by decide +kernel
theorem dX5_init_154 : decode cX5_init 154 = .ok (.bipush 102, 2) := by decide +kernel
theorem dX5_init_156 : decode cX5_init 156 = .ok (.bipush 111, 2) := by decide +kernel
theorem dX5_init_158 : decode cX5_init 158 = .ok (.bipush 114, 2) := by decide +kernel
theorem dX5_init_160 : decode cX5_init 160 = .ok (.invokevirtual 69, 3) := by decide +kernel
theorem dX5_init_163 : decode cX5_init 163 = .ok (.aload_n 0, 1) := by decide +kernel
theorem dX5_init_164 : decode cX5_init 164 = .ok (.bipush 8, 2) := by decide +kernel
theorem dX5_init_166 : decode cX5_init 166 = .ok (.bipush 99, 2) := by decide +kernel
theorem dX5_init_168 : decode cX5_init 168 = .ok (.bipush 101, 2) := by decide +kernel
theorem dX5_init_170 : decode cX5_init 170 = .ok (.bipush 32, 2) := by decide +kernel
theorem dX5_init_172 : decode cX5_init 172 = .ok (.bipush 59, 2) := by decide +kernel
theorem dX5_init_174 : decode cX5_init 174 = .ok (.bipush 32, 2) := by decide +kernel
theorem dX5_init_176 : decode cX5_init 176 = .ok (.bipush 102, 2) := by decide +kernel
theorem dX5_init_178 : decode cX5_init 178 = .ok (.bipush 114, 2) := by decide +kernel
theorem dX5_init_180 : decode cX5_init 180 = .ok (.bipush 101, 2) := by decide +kernel
theorem dX5_init_182 : decode cX5_init 182 = .ok (.invokevirtual 69, 3) := by decide +kernel
theorem dX5_init_185 : decode cX5_init 185 = .ok (.aload_n 0, 1) := by decide +kernel
theorem dX5_init_186 : decode cX5_init 186 = .ok (.bipush 16, 2) := by decide +kernel
theorem dX5_init_188 : decode cX5_init 188 = .ok (.bipush 101, 2) := by decide +kernel
theorem dX5_init_190 : decode cX5_init 190 = .ok (.bipush 115, 2) := by decide +kernel
theorem dX5_init_192 : decode cX5_init 192 = .ok (.bipush 32, 2) := by decide +kernel
theorem dX5_init_194 : decode cX5_init 194 = .ok (.bipush 48, 2) := by decide +kernel
theorem dX5_init_196 : decode cX5_init 196 = .ok (.bipush 32, 2) := by decide +kernel
theorem dX5_init_198 : decode cX5_init 198 = .ok (.bipush 59, 2) := by decide +kernel
theorem dX5_init_200 : decode cX5_init 200 = .ok (.bipush 32, 2) := by decide +kernel
theorem dX5_init_202 : decode cX5_init 202 = .ok (.bipush 100, 2) := by decide +kernel
theorem dX5_init_204 : decode cX5_init 204 = .ok (.invokevirtual 69, 3) := by decide +kernel
theorem dX5_init_207 : decode cX5_init 207 = .ok (.aload_n 0, 1) := by decide +kernel
theorem dX5_init_208 : decode cX5_init 208 = .ok (.bipush 24, 2) := by decide +kernel
theorem dX5_init_210 : decode cX5_init 210 = .ok (.bipush 114, 2) := by decide +kernel
theorem dX5_init_212 : decode cX5_init 212 = .ok (.bipush 97, 2) := by decide +kernel
theorem dX5_init_214 : decode cX5_init 214 = .ok (.bipush 119, 2) := by decide +kernel
theorem dX5_init_216 : decode cX5_init 216 = .ok (.bipush 115, 2) := by decide +kernel
theorem dX5_init_218 : decode cX5_init 218 = .ok (.bipush 32, 2) := by decide +kernel
theorem dX5_init_220 : decode cX5_init 220 = .ok (.bipush 48, 2) := by decide +kernel
theorem dX5_init_222 : decode cX5_init 222 = .ok (.bipush 32, 2) := by decide +kernel
theorem dX5_init_224 : decode cX5_init 224 = .ok (.bipush 59, 2) := by decide +kernel
theorem dX5_init_226 : decode cX5_init 226 = .ok (.invokevirtual 69, 3) := by decide +kernel
theorem dX5_init_229 : decode cX5_init 229 = .ok (.aload_n 0, 1) := by decide +kernel
theorem dX5_init_230 : decode cX5_init 230 = .ok (.getfield 17, 3) := by decide +kernel
theorem dX5_init_233 : decode cX5_init 233 = .ok (.iconst 0, 1) := by decide +kernel
theorem dX5_init_234 : decode cX5_init 234 = .ok (.bipush 32, 2) := by decide +kernel
theorem dX5_init_236 : decode cX5_init 236 = .ok (.iastore, 1) := by decide +kernel
theorem dX5_init_237 : decode cX5_init 237 = .ok (.aload_n 0, 1) := by decide +kernel
theorem dX5_init_238 : decode cX5_init 238 = .ok (.iconst 1, 1) := by decide +kernel
theorem dX5_init_239 : decode cX5_init 239 = .ok (.putfield 73, 3) := by decide +kernel
theorem dX5_init_242 : decode cX5_init 242 = .ok (.return_, 1) := by decide +kernel
abbrev cX5_spell : ByteArray := prog_7_method_5_code
abbrev mX5_spell : MethodName := { cls := "KinInTheHeapModel", name := "spell", desc := "(IIIIIIIII)V" }
theorem mwX5_spell : MWV mX5_spell (.code mX5_spell cX5_spell 10 none) "KinInTheHeapModel" 9 := ⟨w948, w947, w48, w103, w103, by decide +kernel⟩
theorem dX5_spell_0 : decode cX5_spell 0 = .ok (.aload_n 0, 1) := by decide +kernel
theorem dX5_spell_1 : decode cX5_spell 1 = .ok (.getfield 13, 3) := by decide +kernel
theorem dX5_spell_4 : decode cX5_spell 4 = .ok (.iload_n 1, 1) := by decide +kernel
theorem dX5_spell_5 : decode cX5_spell 5 = .ok (.iload_n 2, 1) := by decide +kernel
theorem dX5_spell_6 : decode cX5_spell 6 = .ok (.iastore, 1) := by decide +kernel
theorem dX5_spell_7 : decode cX5_spell 7 = .ok (.aload_n 0, 1) := by decide +kernel
theorem dX5_spell_8 : decode cX5_spell 8 = .ok (.getfield 13, 3) := by decide +kernel
theorem dX5_spell_11 : decode cX5_spell 11 = .ok (.iload_n 1, 1) := by decide +kernel
theorem dX5_spell_12 : decode cX5_spell 12 = .ok (.iconst 1, 1) := by decide +kernel
theorem dX5_spell_13 : decode cX5_spell 13 = .ok (.iadd, 1) := by decide +kernel
theorem dX5_spell_14 : decode cX5_spell 14 = .ok (.iload_n 3, 1) := by decide +kernel
theorem dX5_spell_15 : decode cX5_spell 15 = .ok (.iastore, 1) := by decide +kernel
theorem dX5_spell_16 : decode cX5_spell 16 = .ok (.aload_n 0, 1) := by decide +kernel
theorem dX5_spell_17 : decode cX5_spell 17 = .ok (.getfield 13, 3) := by decide +kernel
theorem dX5_spell_20 : decode cX5_spell 20 = .ok (.iload_n 1, 1) := by decide +kernel
theorem dX5_spell_21 : decode cX5_spell 21 = .ok (.iconst 2, 1) := by decide +kernel
theorem dX5_spell_22 : decode cX5_spell 22 = .ok (.iadd, 1) := by decide +kernel
theorem dX5_spell_23 : decode cX5_spell 23 = .ok (.iload 4, 2) := by decide +kernel
theorem dX5_spell_25 : decode cX5_spell 25 = .ok (.iastore, 1) := by decide +kernel
theorem dX5_spell_26 : decode cX5_spell 26 = .ok (.aload_n 0, 1) := by decide +kernel
theorem dX5_spell_27 : decode cX5_spell 27 = .ok (.getfield 13, 3) := by decide +kernel
theorem dX5_spell_30 : decode cX5_spell 30 = .ok (.iload_n 1, 1) := by decide +kernel
theorem dX5_spell_31 : decode cX5_spell 31 = .ok (.iconst 3, 1) := by decide +kernel
theorem dX5_spell_32 : decode cX5_spell 32 = .ok (.iadd, 1) := by decide +kernel
theorem dX5_spell_33 : decode cX5_spell 33 = .ok (.iload 5, 2) := by decide +kernel
theorem dX5_spell_35 : decode cX5_spell 35 = .ok (.iastore, 1) := by decide +kernel
theorem dX5_spell_36 : decode cX5_spell 36 = .ok (.aload_n 0, 1) := by decide +kernel
theorem dX5_spell_37 : decode cX5_spell 37 = .ok (.getfield 13, 3) := by decide +kernel
theorem dX5_spell_40 : decode cX5_spell 40 = .ok (.iload_n 1, 1) := by decide +kernel
theorem dX5_spell_41 : decode cX5_spell 41 = .ok (.iconst 4, 1) := by decide +kernel
theorem dX5_spell_42 : decode cX5_spell 42 = .ok (.iadd, 1) := by decide +kernel
theorem dX5_spell_43 : decode cX5_spell 43 = .ok (.iload 6, 2) := by decide +kernel
theorem dX5_spell_45 : decode cX5_spell 45 = .ok (.iastore, 1) := by decide +kernel
theorem dX5_spell_46 : decode cX5_spell 46 = .ok (.aload_n 0, 1) := by decide +kernel
theorem dX5_spell_47 : decode cX5_spell 47 = .ok (.getfield 13, 3) := by decide +kernel
theorem dX5_spell_50 : decode cX5_spell 50 = .ok (.iload_n 1, 1) := by decide +kernel
theorem dX5_spell_51 : decode cX5_spell 51 = .ok (.iconst 5, 1) := by decide +kernel
theorem dX5_spell_52 : decode cX5_spell 52 = .ok (.iadd, 1) := by decide +kernel
theorem dX5_spell_53 : decode cX5_spell 53 = .ok (.iload 7, 2) := by decide +kernel
theorem dX5_spell_55 : decode cX5_spell 55 = .ok (.iastore, 1) := by decide +kernel
theorem dX5_spell_56 : decode cX5_spell 56 = .ok (.aload_n 0, 1) := by decide +kernel
theorem dX5_spell_57 : decode cX5_spell 57 = .ok (.getfield 13, 3) := by decide +kernel
theorem dX5_spell_60 : decode cX5_spell 60 = .ok (.iload_n 1, 1) := by decide +kernel
theorem dX5_spell_61 : decode cX5_spell 61 = .ok (.bipush 6, 2) := by decide +kernel
theorem dX5_spell_63 : decode cX5_spell 63 = .ok (.iadd, 1) := by decide +kernel
theorem dX5_spell_64 : decode cX5_spell 64 = .ok (.iload 8, 2) := by decide +kernel
theorem dX5_spell_66 : decode cX5_spell 66 = .ok (.iastore, 1) := by decide +kernel
theorem dX5_spell_67 : decode cX5_spell 67 = .ok (.aload_n 0, 1) := by decide +kernel
theorem dX5_spell_68 : decode cX5_spell 68 = .ok (.getfield 13, 3) := by decide +kernel
theorem dX5_spell_71 : decode cX5_spell 71 = .ok (.iload_n 1, 1) := by decide +kernel
theorem dX5_spell_72 : decode cX5_spell 72 = .ok (.bipush 7, 2) := by decide +kernel
theorem dX5_spell_74 : decode cX5_spell 74 = .ok (.iadd, 1) := by decide +kernel
theorem dX5_spell_75 : decode cX5_spell 75 = .ok (.iload 9, 2) := by decide +kernel
theorem dX5_spell_77 : decode cX5_spell 77 = .ok (.iastore, 1) := by decide +kernel
theorem dX5_spell_78 : decode cX5_spell 78 = .ok (.return_, 1) := by decide +kernel
abbrev cX5_isOne : ByteArray := prog_7_method_6_code
abbrev mX5_isOne : MethodName := { cls := "KinInTheHeapModel", name := "isOne", desc := "(I)Z" }
theorem mwX5_isOne : MWV mX5_isOne (.code mX5_isOne cX5_isOne 2 (some .boolean)) "KinInTheHeapModel" 1 := ⟨w1098, w1097, w50, w103, w103, by decide +kernel⟩
theorem dX5_isOne_0 : decode cX5_isOne 0 = .ok (.iload_n 1, 1) := by decide +kernel
theorem dX5_isOne_1 : decode cX5_isOne 1 = .ok (.i2l, 1) := by decide +kernel
theorem dX5_isOne_2 : decode cX5_isOne 2 = .ok (.lconst 0, 1) := by decide +kernel
theorem dX5_isOne_3 : decode cX5_isOne 3 = .ok (.aload_n 0, 1) := by decide +kernel
theorem dX5_isOne_4 : decode cX5_isOne 4 = .ok (.getfield 76, 3) := by decide +kernel
theorem dX5_isOne_7 : decode cX5_isOne 7 = .ok (.iconst 1, 1) := by decide +kernel
theorem dX5_isOne_8 : decode cX5_isOne 8 = .ok (.isub, 1) := by decide +kernel
theorem dX5_isOne_9 : decode cX5_isOne 9 = .ok (.i2l, 1) := by decide +kernel
theorem dX5_isOne_10 : decode cX5_isOne 10 = .ok (.invokestatic 79, 3) := by decide +kernel
theorem dX5_isOne_13 : decode cX5_isOne 13 = .ok (.ireturn, 1) := by decide +kernel
abbrev cX5_isCell : ByteArray := prog_7_method_7_code
abbrev mX5_isCell : MethodName := { cls := "KinInTheHeapModel", name := "isCell", desc := "(I)Z" }
theorem mwX5_isCell : MWS mX5_isCell (.code mX5_isCell cX5_isCell 1 (some .boolean)) 1 := ⟨w1093, w1092, w103, by decide +kernel⟩
theorem dX5_isCell_0 : decode cX5_isCell 0 = .ok (.iload_n 0, 1) := by decide +kernel
theorem dX5_isCell_1 : decode cX5_isCell 1 = .ok (.i2l, 1) := by decide +kernel
theorem dX5_isCell_2 : decode cX5_isCell 2 = .ok (.lconst 0, 1) := by decide +kernel
theorem dX5_isCell_3 : decode cX5_isCell 3 = .ok (.ldc2_w 83, 3) := by decide +kernel
theorem dX5_isCell_6 : decode cX5_isCell 6 = .ok (.invokestatic 79, 3) := by decide +kernel
theorem dX5_isCell_9 : decode cX5_isCell 9 = .ok (.ireturn, 1) := by decide +kernel
abbrev cX5_isOf : ByteArray := prog_7_method_8_code
abbrev mX5_isOf : MethodName := { cls := "KinInTheHeapModel", name := "isOf", desc := "(II)Z" }
theorem mwX5_isOf : MWV mX5_isOf (.code mX5_isOf cX5_isOf 3 (some .boolean)) "KinInTheHeapModel" 2 := ⟨w1090, w1089, w49, w103, w103, by decide +kernel⟩
theorem dX5_isOf_0 : decode cX5_isOf 0 = .ok (.iload_n 1, 1) := by decide +kernel
theorem dX5_isOf_1 : decode cX5_isOf 1 = .ok (.iconst 2, 1) := by decide +kernel
theorem dX5_isOf_2 : decode cX5_isOf 2 = .ok (.if_icmp .lt 32, 3) := by decide +kernel
theorem dX5_isOf_5 : decode cX5_isOf 5 = .ok (.iload_n 1, 1) := by decide +kernel
theorem dX5_isOf_6 : decode cX5_isOf 6 = .ok (.iconst 2, 1) := by decide +kernel
theorem dX5_isOf_7 : decode cX5_isOf 7 = .ok (.if_icmp .eq 9, 3) := by decide +kernel
theorem dX5_isOf_10 : decode cX5_isOf 10 = .ok (.iload_n 1, 1) := by decide +kernel
theorem dX5_isOf_11 : decode cX5_isOf 11 = .ok (.bipush 10, 2) := by decide +kernel
theorem dX5_isOf_13 : decode cX5_isOf 13 = .ok (.if_icmp .ne 13, 3) := by decide +kernel
theorem dX5_isOf_16 : decode cX5_isOf 16 = .ok (.iload_n 2, 1) := by decide +kernel
theorem dX5_isOf_17 : decode cX5_isOf 17 = .ok (.invokestatic 85, 3) := by decide +kernel
theorem dX5_isOf_20 : decode cX5_isOf 20 = .ok (.ifCond .eq 18, 3) := by decide +kernel
theorem dX5_isOf_23 : decode cX5_isOf 23 = .ok (.goto 11, 3) := by decide +kernel
theorem dX5_isOf_26 : decode cX5_isOf 26 = .ok (.aload_n 0, 1) := by decide +kernel
theorem dX5_isOf_27 : decode cX5_isOf 27 = .ok (.iload_n 2, 1) := by decide +kernel
theorem dX5_isOf_28 : decode cX5_isOf 28 = .ok (.invokevirtual 89, 3) := by decide +kernel
theorem dX5_isOf_31 : decode cX5_isOf 31 = .ok (.ifCond .eq 7, 3) := by decide +kernel
theorem dX5_isOf_34 : decode cX5_isOf 34 = .ok (.iconst 1, 1) := by decide +kernel
theorem dX5_isOf_35 : decode cX5_isOf 35 = .ok (.goto 4, 3) := by decide +kernel
theorem dX5_isOf_38 : decode cX5_isOf 38 = .ok (.iconst 0, 1) := by decide +kernel
theorem dX5_isOf_39 : decode cX5_isOf 39 = .ok (.ireturn, 1) := by decide +kernel
abbrev cX5_mostOf : ByteArray := prog_7_method_9_code
abbrev mX5_mostOf : MethodName := { cls := "KinInTheHeapModel", name := "mostOf", desc := "(I)I" }
theorem mwX5_mostOf : MWS mX5_mostOf (.code mX5_mostOf cX5_mostOf 1 (some .int)) 1 := ⟨w1102, w1101, w103, by decide +kernel⟩
theorem dX5_mostOf_0 : decode cX5_mostOf 0 = .ok (.iload_n 0, 1) := by decide +kernel
theorem dX5_mostOf_1 : decode cX5_mostOf 1 = .ok (.ifCond .ne 9, 3) := by decide +kernel
theorem dX5_mostOf_4 : decode cX5_mostOf 4 = .ok (.sipush 999, 3) := by decide +kernel
theorem dX5_mostOf_7 : decode cX5_mostOf 7 = .ok (.goto 24, 3) := by decide +kernel
theorem dX5_mostOf_10 : decode cX5_mostOf 10 = .ok (.iload_n 0, 1) := by decide +kernel
theorem dX5_mostOf_11 : decode cX5_mostOf 11 = .ok (.iconst 2, 1) := by decide +kernel
theorem dX5_mostOf_12 : decode cX5_mostOf 12 = .ok (.if_icmp .ne 7, 3) := by decide +kernel
theorem dX5_mostOf_15 : decode cX5_mostOf 15 = .ok (.iconst 1, 1) := by decide +kernel
theorem dX5_mostOf_16 : decode cX5_mostOf 16 = .ok (.goto 15, 3) := by decide +kernel
theorem dX5_mostOf_19 : decode cX5_mostOf 19 = .ok (.iload_n 0, 1) := by decide +kernel
theorem dX5_mostOf_20 : decode cX5_mostOf 20 = .ok (.iconst 4, 1) := by decide +kernel
theorem dX5_mostOf_21 : decode cX5_mostOf 21 = .ok (.if_icmp .ne 8, 3) := by decide +kernel
theorem dX5_mostOf_24 : decode cX5_mostOf 24 = .ok (.bipush 35, 2) := by decide +kernel
theorem dX5_mostOf_26 : decode cX5_mostOf 26 = .ok (.goto 5, 3) := by decide +kernel
theorem dX5_mostOf_29 : decode cX5_mostOf 29 = .ok (.bipush 9, 2) := by decide +kernel
theorem dX5_mostOf_31 : decode cX5_mostOf 31 = .ok (.ireturn, 1) := by decide +kernel
abbrev cX5_set : ByteArray := prog_7_method_10_code
abbrev mX5_set : MethodName := { cls := "KinInTheHeapModel", name := "set", desc := "(III)I" }
theorem mwX5_set : MWV mX5_set (.code mX5_set cX5_set 5 (some .int)) "KinInTheHeapModel" 3 := ⟨w1082, w1080, w1081, w103, w103, by decide +kernel⟩
theorem dX5_set_0 : decode cX5_set 0 = .ok (.iload_n 1, 1) := by decide +kernel
theorem dX5_set_1 : decode cX5_set 1 = .ok (.i2l, 1) := by decide +kernel
theorem dX5_set_2 : decode cX5_set 2 = .ok (.lconst 0, 1) := by decide +kernel
theorem dX5_set_3 : decode cX5_set 3 = .ok (.ldc2_w 92, 3) := by decide +kernel
theorem dX5_set_6 : decode cX5_set 6 = .ok (.invokestatic 79, 3) := by decide +kernel
theorem dX5_set_9 : decode cX5_set 9 = .ok (.ifCond .eq 37, 3) := by decide +kernel
theorem dX5_set_12 : decode cX5_set 12 = .ok (.aload_n 0, 1) := by decide +kernel
theorem dX5_set_13 : decode cX5_set 13 = .ok (.iload_n 1, 1) := by decide +kernel
theorem dX5_set_14 : decode cX5_set 14 = .ok (.iload_n 2, 1) := by decide +kernel
theorem dX5_set_15 : decode cX5_set 15 = .ok (.invokevirtual 94, 3) := by decide +kernel
theorem dX5_set_18 : decode cX5_set 18 = .ok (.ifCond .eq 28, 3) := by decide +kernel
theorem dX5_set_21 : decode cX5_set 21 = .ok (.iload_n 3, 1) := by decide +kernel
theorem dX5_set_22 : decode cX5_set 22 = .ok (.i2l, 1) := by decide +kernel
theorem dX5_set_23 : decode cX5_set 23 = .ok (.iload_n 1, 1) := by decide +kernel
theorem dX5_set_24 : decode cX5_set 24 = .ok (.iconst 4, 1) := by decide +kernel
theorem dX5_set_25 : decode cX5_set 25 = .ok (.if_icmp .ne 9, 3) := by decide +kernel
theorem dX5_set_28 : decode cX5_set 28 = .ok (.ldc2_w 98, 3) := by decide +kernel
theorem dX5_set_31 : decode cX5_set 31 = .ok (.goto 4, 3) := by decide +kernel
theorem dX5_set_34 : decode cX5_set 34 = .ok (.lconst 0, 1) := by decide +kernel
theorem dX5_set_35 : decode cX5_set 35 = .ok (.iload_n 1, 1) := by decide +kernel
theorem dX5_set_36 : decode cX5_set 36 = .ok (.invokestatic 100, 3) := by decide +kernel
theorem dX5_set_39 : decode cX5_set 39 = .ok (.i2l, 1) := by decide +kernel
theorem dX5_set_40 : decode cX5_set 40 = .ok (.invokestatic 79, 3) := by decide +kernel
theorem dX5_set_43 : decode cX5_set 43 = .ok (.ifCond .ne 7, 3) := by decide +kernel
theorem dX5_set_46 : decode cX5_set 46 = .ok (.sipush (-1000), 3) := by decide +kernel
theorem dX5_set_49 : decode cX5_set 49 = .ok (.ireturn, 1) := by decide +kernel
theorem dX5_set_50 : decode cX5_set 50 = .ok (.aload_n 0, 1) := by decide +kernel
theorem dX5_set_51 : decode cX5_set 51 = .ok (.iload_n 2, 1) := by decide +kernel
theorem dX5_set_52 : decode cX5_set 52 = .ok (.iload_n 1, 1) := by decide +kernel
theorem dX5_set_53 : decode cX5_set 53 = .ok (.invokevirtual 104, 3) := by decide +kernel
theorem dX5_set_56 : decode cX5_set 56 = .ok (.istore 4, 2) := by decide +kernel
theorem dX5_set_58 : decode cX5_set 58 = .ok (.aload_n 0, 1) := by decide +kernel
theorem dX5_set_59 : decode cX5_set 59 = .ok (.iload_n 1, 1) := by decide +kernel
theorem dX5_set_60 : decode cX5_set 60 = .ok (.iload_n 2, 1) := by decide +kernel
theorem dX5_set_61 : decode cX5_set 61 = .ok (.iload_n 3, 1) := by decide +kernel
theorem dX5_set_62 : decode cX5_set 62 = .ok (.invokevirtual 108, 3) := by decide +kernel
theorem dX5_set_65 : decode cX5_set 65 = .ok (.iload 4, 2) := by decide +kernel
theorem dX5_set_67 : decode cX5_set 67 = .ok (.ireturn, 1) := by decide +kernel
abbrev cX5_lays : ByteArray := prog_7_method_11_code
abbrev mX5_lays : MethodName := { cls := "KinInTheHeapModel", name := "lays", desc := "(III)V" }
theorem mwX5_lays : MWV mX5_lays (.code mX5_lays cX5_lays 4 none) "KinInTheHeapModel" 3 := ⟨w1211, w1210, w73, w103, w103, by decide +kernel⟩
theorem dX5_lays_0 : decode cX5_lays 0 = .ok (.iload_n 1, 1) := by decide +kernel
theorem dX5_lays_1 : decode cX5_lays 1 = .ok (.iconst 2, 1) := by decide +kernel
theorem dX5_lays_2 : decode cX5_lays 2 = .ok (.if_icmp .ge 39, 3) := by decide +kernel
theorem dX5_lays_5 : decode cX5_lays 5 = .ok (.aload_n 0, 1) := by decide +kernel
theorem dX5_lays_6 : decode cX5_lays 6 = .ok (.iload_n 1, 1) := by decide +kernel
theorem dX5_lays_7 : decode cX5_lays 7 = .ok (.ifCond .ne 7, 3) := by decide +kernel
theorem dX5_lays_10 : decode cX5_lays 10 = .ok (.iload_n 3, 1) := by decide +kernel
theorem dX5_lays_11 : decode cX5_lays 11 = .ok (.goto 7, 3) := by decide +kernel
theorem dX5_lays_14 : decode cX5_lays 14 = .ok (.aload_n 0, 1) := by decide +kernel
theorem dX5_lays_15 : decode cX5_lays 15 = .ok (.getfield 112, 3) := by decide +kernel
theorem dX5_lays_18 : decode cX5_lays 18 = .ok (.putfield 112, 3) := by decide +kernel
theorem dX5_lays_21 : decode cX5_lays 21 = .ok (.aload_n 0, 1) := by decide +kernel
theorem dX5_lays_22 : decode cX5_lays 22 = .ok (.iload_n 1, 1) := by decide +kernel
theorem dX5_lays_23 : decode cX5_lays 23 = .ok (.iconst 1, 1) := by decide +kernel
theorem dX5_lays_24 : decode cX5_lays 24 = .ok (.if_icmp .ne 7, 3) := by decide +kernel
theorem dX5_lays_27 : decode cX5_lays 27 = .ok (.iload_n 3, 1) := by decide +kernel
theorem dX5_lays_28 : decode cX5_lays 28 = .ok (.goto 7, 3) := by decide +kernel
theorem dX5_lays_31 : decode cX5_lays 31 = .ok (.aload_n 0, 1) := by decide +kernel
theorem dX5_lays_32 : decode cX5_lays 32 = .ok (.getfield 23, 3) := by decide +kernel
theorem dX5_lays_35 : decode cX5_lays 35 = .ok (.putfield 23, 3) := by decide +kernel
theorem dX5_lays_38 : decode cX5_lays 38 = .ok (.goto 68, 3) := by decide +kernel
theorem dX5_lays_41 : decode cX5_lays 41 = .ok (.iload_n 1, 1) := by decide +kernel
theorem dX5_lays_42 : decode cX5_lays 42 = .ok (.iconst 2, 1) := by decide +kernel
theorem dX5_lays_43 : decode cX5_lays 43 = .ok (.if_icmp .ne 13, 3) := by decide +kernel
theorem dX5_lays_46 : decode cX5_lays 46 = .ok (.aload_n 0, 1) := by decide +kernel
theorem dX5_lays_47 : decode cX5_lays 47 = .ok (.getfield 26, 3) := by decide +kernel
theorem dX5_lays_50 : decode cX5_lays 50 = .ok (.iload_n 2, 1) := by decide +kernel
theorem dX5_lays_51 : decode cX5_lays 51 = .ok (.iload_n 3, 1) := by decide +kernel
theorem dX5_lays_52 : decode cX5_lays 52 = .ok (.iastore, 1) := by decide +kernel
theorem dX5_lays_53 : decode cX5_lays 53 = .ok (.goto 53, 3) := by decide +kernel
theorem dX5_lays_56 : decode cX5_lays 56 = .ok (.iload_n 1, 1) := by decide +kernel
theorem dX5_lays_57 : decode cX5_lays 57 = .ok (.iconst 3, 1) := by decide +kernel
theorem dX5_lays_58 : decode cX5_lays 58 = .ok (.if_icmp .ne 13, 3) := by decide +kernel
theorem dX5_lays_61 : decode cX5_lays 61 = .ok (.aload_n 0, 1) := by decide +kernel
theorem dX5_lays_62 : decode cX5_lays 62 = .ok (.getfield 32, 3) := by decide +kernel
theorem dX5_lays_65 : decode cX5_lays 65 = .ok (.iload_n 2, 1) := by decide +kernel
theorem dX5_lays_66 : decode cX5_lays 66 = .ok (.iload_n 3, 1) := by decide +kernel
theorem dX5_lays_67 : decode cX5_lays 67 = .ok (.iastore, 1) := by decide +kernel
theorem dX5_lays_68 : decode cX5_lays 68 = .ok (.goto 38, 3) := by decide +kernel
theorem dX5_lays_71 : decode cX5_lays 71 = .ok (.iload_n 1, 1) := by decide +kernel
theorem dX5_lays_72 : decode cX5_lays 72 = .ok (.iconst 4, 1) := by decide +kernel
theorem dX5_lays_73 : decode cX5_lays 73 = .ok (.if_icmp .ne 13, 3) := by decide +kernel
theorem dX5_lays_76 : decode cX5_lays 76 = .ok (.aload_n 0, 1) := by decide +kernel
theorem dX5_lays_77 : decode cX5_lays 77 = .ok (.getfield 35, 3) := by decide +kernel
theorem dX5_lays_80 : decode cX5_lays 80 = .ok (.iload_n 2, 1) := by decide +kernel
theorem dX5_lays_81 : decode cX5_lays 81 = .ok (.iload_n 3, 1) := by decide +kernel
theorem dX5_lays_82 : decode cX5_lays 82 = .ok (.iastore, 1) := by decide +kernel
theorem dX5_lays_83 : decode cX5_lays 83 = .ok (.goto 23, 3) := by decide +kernel
theorem dX5_lays_86 : decode cX5_lays 86 = .ok (.iload_n 1, 1) := by decide +kernel
theorem dX5_lays_87 : decode cX5_lays 87 = .ok (.iconst 5, 1) := by decide +kernel
theorem dX5_lays_88 : decode cX5_lays 88 = .ok (.if_icmp .ne 13, 3) := by decide +kernel
theorem dX5_lays_91 : decode cX5_lays 91 = .ok (.aload_n 0, 1) := by decide +kernel
theorem dX5_lays_92 : decode cX5_lays 92 = .ok (.getfield 29, 3) := by decide +kernel
theorem dX5_lays_95 : decode cX5_lays 95 = .ok (.iload_n 2, 1) := by decide +kernel
theorem dX5_lays_96 : decode cX5_lays 96 = .ok (.iload_n 3, 1) := by decide +kernel
theorem dX5_lays_97 : decode cX5_lays 97 = .ok (.iastore, 1) := by decide +kernel
theorem dX5_lays_98 : decode cX5_lays 98 = .ok (.goto 8, 3) := by decide +kernel
theorem dX5_lays_101 : decode cX5_lays 101 = .ok (.aload_n 0, 1) := by decide +kernel
theorem dX5_lays_102 : decode cX5_lays 102 = .ok (.iload_n 3, 1) := by decide +kernel
theorem dX5_lays_103 : decode cX5_lays 103 = .ok (.putfield 115, 3) := by decide +kernel
theorem dX5_lays_106 : decode cX5_lays 106 = .ok (.return_, 1) := by decide +kernel
abbrev cX5_dust : ByteArray := prog_7_method_12_code
abbrev mX5_dust : MethodName := { cls := "KinInTheHeapModel", name := "dust", desc := "(III)I" }
theorem mwX5_dust : MWV mX5_dust (.code mX5_dust cX5_dust 4 (some .int)) "KinInTheHeapModel" 3 := ⟨w1215, w1213, w1214, w103, w103, by decide +kernel⟩
theorem dX5_dust_0 : decode cX5_dust 0 = .ok (.iload_n 1, 1) := by decide +kernel
theorem dX5_dust_1 : decode cX5_dust 1 = .ok (.i2l, 1) := by decide +kernel
theorem dX5_dust_2 : decode cX5_dust 2 = .ok (.lconst 0, 1) := by decide +kernel
theorem dX5_dust_3 : decode cX5_dust 3 = .ok (.ldc2_w 118, 3) := by decide +kernel
theorem dX5_dust_6 : decode cX5_dust 6 = .ok (.invokestatic 79, 3) := by decide +kernel
theorem dX5_dust_9 : decode cX5_dust 9 = .ok (.ifCond .eq 22, 3) := by decide +kernel
theorem dX5_dust_12 : decode cX5_dust 12 = .ok (.iload_n 2, 1) := by decide +kernel
theorem dX5_dust_13 : decode cX5_dust 13 = .ok (.i2l, 1) := by decide +kernel
theorem dX5_dust_14 : decode cX5_dust 14 = .ok (.lconst 0, 1) := by decide +kernel
theorem dX5_dust_15 : decode cX5_dust 15 = .ok (.ldc2_w 120, 3) := by decide +kernel
theorem dX5_dust_18 : decode cX5_dust 18 = .ok (.invokestatic 79, 3) := by decide +kernel
theorem dX5_dust_21 : decode cX5_dust 21 = .ok (.ifCond .eq 10, 3) := by decide +kernel
theorem dX5_dust_24 : decode cX5_dust 24 = .ok (.iload_n 3, 1) := by decide +kernel
theorem dX5_dust_25 : decode cX5_dust 25 = .ok (.invokestatic 85, 3) := by decide +kernel
theorem dX5_dust_28 : decode cX5_dust 28 = .ok (.ifCond .ne 6, 3) := by decide +kernel
theorem dX5_dust_31 : decode cX5_dust 31 = .ok (.bipush (-2), 2) := by decide +kernel
theorem dX5_dust_33 : decode cX5_dust 33 = .ok (.ireturn, 1) := by decide +kernel
theorem dX5_dust_34 : decode cX5_dust 34 = .ok (.aload_n 0, 1) := by decide +kernel
theorem dX5_dust_35 : decode cX5_dust 35 = .ok (.getfield 76, 3) := by decide +kernel
theorem dX5_dust_38 : decode cX5_dust 38 = .ok (.bipush 8, 2) := by decide +kernel
theorem dX5_dust_40 : decode cX5_dust 40 = .ok (.if_icmp .ne 6, 3) := by decide +kernel
theorem dX5_dust_43 : decode cX5_dust 43 = .ok (.bipush (-4), 2) := by decide +kernel
theorem dX5_dust_45 : decode cX5_dust 45 = .ok (.ireturn, 1) := by decide +kernel
theorem dX5_dust_46 : decode cX5_dust 46 = .ok (.aload_n 0, 1) := by decide +kernel
theorem dX5_dust_47 : decode cX5_dust 47 = .ok (.getfield 29, 3) := by decide +kernel
theorem dX5_dust_50 : decode cX5_dust 50 = .ok (.aload_n 0, 1) := by decide +kernel
theorem dX5_dust_51 : decode cX5_dust 51 = .ok (.getfield 76, 3) := by decide +kernel
theorem dX5_dust_54 : decode cX5_dust 54 = .ok (.iload_n 1, 1) := by decide +kernel
theorem dX5_dust_55 : decode cX5_dust 55 = .ok (.iastore, 1) := by decide +kernel
theorem dX5_dust_56 : decode cX5_dust 56 = .ok (.aload_n 0, 1) := by decide +kernel
theorem dX5_dust_57 : decode cX5_dust 57 = .ok (.getfield 32, 3) := by decide +kernel
theorem dX5_dust_60 : decode cX5_dust 60 = .ok (.aload_n 0, 1) := by decide +kernel
theorem dX5_dust_61 : decode cX5_dust 61 = .ok (.getfield 76, 3) := by decide +kernel
theorem dX5_dust_64 : decode cX5_dust 64 = .ok (.iload_n 2, 1) := by decide +kernel
theorem dX5_dust_65 : decode cX5_dust 65 = .ok (.iastore, 1) := by decide +kernel
theorem dX5_dust_66 : decode cX5_dust 66 = .ok (.aload_n 0, 1) := by decide +kernel
theorem dX5_dust_67 : decode cX5_dust 67 = .ok (.getfield 35, 3) := by decide +kernel
theorem dX5_dust_70 : decode cX5_dust 70 = .ok (.aload_n 0, 1) := by decide +kernel
theorem dX5_dust_71 : decode cX5_dust 71 = .ok (.getfield 76, 3) := by decide +kernel
theorem dX5_dust_74 : decode cX5_dust 74 = .ok (.iload_n 3, 1) := by decide +kernel
theorem dX5_dust_75 : decode cX5_dust 75 = .ok (.iastore, 1) := by decide +kernel
theorem dX5_dust_76 : decode cX5_dust 76 = .ok (.aload_n 0, 1) := by decide +kernel
theorem dX5_dust_77 : decode cX5_dust 77 = .ok (.dup, 1) := by decide +kernel
theorem dX5_dust_78 : decode cX5_dust 78 = .ok (.getfield 76, 3) := by decide +kernel
theorem dX5_dust_81 : decode cX5_dust 81 = .ok (.iconst 1, 1) := by decide +kernel
theorem dX5_dust_82 : decode cX5_dust 82 = .ok (.iadd, 1) := by decide +kernel
theorem dX5_dust_83 : decode cX5_dust 83 = .ok (.putfield 76, 3) := by decide +kernel
theorem dX5_dust_86 : decode cX5_dust 86 = .ok (.aload_n 0, 1) := by decide +kernel
theorem dX5_dust_87 : decode cX5_dust 87 = .ok (.getfield 76, 3) := by decide +kernel
theorem dX5_dust_90 : decode cX5_dust 90 = .ok (.iconst 1, 1) := by decide +kernel
theorem dX5_dust_91 : decode cX5_dust 91 = .ok (.isub, 1) := by decide +kernel
theorem dX5_dust_92 : decode cX5_dust 92 = .ok (.ireturn, 1) := by decide +kernel
abbrev cX5_whoIn : ByteArray := prog_7_method_13_code
abbrev mX5_whoIn : MethodName := { cls := "KinInTheHeapModel", name := "whoIn", desc := "(I)I" }
theorem mwX5_whoIn : MWV mX5_whoIn (.code mX5_whoIn cX5_whoIn 4 (some .int)) "KinInTheHeapModel" 1 := ⟨w1111, w1110, w51, w103, w103, by decide +kernel⟩
theorem dX5_whoIn_0 : decode cX5_whoIn 0 = .ok (.iconst 0, 1) := by decide +kernel
theorem dX5_whoIn_1 : decode cX5_whoIn 1 = .ok (.istore_n 2, 1) := by decide +kernel
theorem dX5_whoIn_2 : decode cX5_whoIn 2 = .ok (.iconst 0, 1) := by decide +kernel
theorem dX5_whoIn_3 : decode cX5_whoIn 3 = .ok (.istore_n 3, 1) := by decide +kernel
theorem dX5_whoIn_4 : decode cX5_whoIn 4 = .ok (.iload_n 3, 1) := by decide +kernel
theorem dX5_whoIn_5 : decode cX5_whoIn 5 = .ok (.aload_n 0, 1) := by decide +kernel
theorem dX5_whoIn_6 : decode cX5_whoIn 6 = .ok (.getfield 76, 3) := by decide +kernel
theorem dX5_whoIn_9 : decode cX5_whoIn 9 = .ok (.if_icmp .ge 29, 3) := by decide +kernel
theorem dX5_whoIn_12 : decode cX5_whoIn 12 = .ok (.iload_n 2, 1) := by decide +kernel
theorem dX5_whoIn_13 : decode cX5_whoIn 13 = .ok (.aload_n 0, 1) := by decide +kernel
theorem dX5_whoIn_14 : decode cX5_whoIn 14 = .ok (.getfield 35, 3) := by decide +kernel
theorem dX5_whoIn_17 : decode cX5_whoIn 17 = .ok (.iload_n 3, 1) := by decide +kernel
theorem dX5_whoIn_18 : decode cX5_whoIn 18 = .ok (.iaload, 1) := by decide +kernel
theorem dX5_whoIn_19 : decode cX5_whoIn 19 = .ok (.iload_n 1, 1) := by decide +kernel
theorem dX5_whoIn_20 : decode cX5_whoIn 20 = .ok (.if_icmp .ne 7, 3) := by decide +kernel
theorem dX5_whoIn_23 : decode cX5_whoIn 23 = .ok (.iconst 1, 1) := by decide +kernel
theorem dX5_whoIn_24 : decode cX5_whoIn 24 = .ok (.goto 4, 3) := by decide +kernel
theorem dX5_whoIn_27 : decode cX5_whoIn 27 = .ok (.iconst 0, 1) := by decide +kernel
theorem dX5_whoIn_28 : decode cX5_whoIn 28 = .ok (.iload_n 3, 1) := by decide +kernel
theorem dX5_whoIn_29 : decode cX5_whoIn 29 = .ok (.ishl, 1) := by decide +kernel
theorem dX5_whoIn_30 : decode cX5_whoIn 30 = .ok (.ior, 1) := by decide +kernel
theorem dX5_whoIn_31 : decode cX5_whoIn 31 = .ok (.istore_n 2, 1) := by decide +kernel
theorem dX5_whoIn_32 : decode cX5_whoIn 32 = .ok (.iinc 3 1, 3) := by decide +kernel
theorem dX5_whoIn_35 : decode cX5_whoIn 35 = .ok (.goto (-31), 3) := by decide +kernel
theorem dX5_whoIn_38 : decode cX5_whoIn 38 = .ok (.iload_n 2, 1) := by decide +kernel
theorem dX5_whoIn_39 : decode cX5_whoIn 39 = .ok (.ireturn, 1) := by decide +kernel
abbrev cX5_told : ByteArray := prog_7_method_14_code
abbrev mX5_told : MethodName := { cls := "KinInTheHeapModel", name := "told", desc := "(II)I" }
theorem mwX5_told : MWV mX5_told (.code mX5_told cX5_told 3 (some .int)) "KinInTheHeapModel" 2 := ⟨w1106, w1104, w1105, w103, w103, by decide +kernel⟩
theorem dX5_told_0 : decode cX5_told 0 = .ok (.iload_n 2, 1) := by decide +kernel
theorem dX5_told_1 : decode cX5_told 1 = .ok (.i2l, 1) := by decide +kernel
theorem dX5_told_2 : decode cX5_told 2 = .ok (.lconst 0, 1) := by decide +kernel
theorem dX5_told_3 : decode cX5_told 3 = .ok (.ldc2_w 122, 3) := by decide +kernel
theorem dX5_told_6 : decode cX5_told 6 = .ok (.invokestatic 79, 3) := by decide +kernel
theorem dX5_told_9 : decode cX5_told 9 = .ok (.ifCond .eq 12, 3) := by decide +kernel
theorem dX5_told_12 : decode cX5_told 12 = .ok (.aload_n 0, 1) := by decide +kernel
theorem dX5_told_13 : decode cX5_told 13 = .ok (.iload_n 2, 1) := by decide +kernel
theorem dX5_told_14 : decode cX5_told 14 = .ok (.iload_n 1, 1) := by decide +kernel
theorem dX5_told_15 : decode cX5_told 15 = .ok (.invokevirtual 94, 3) := by decide +kernel
theorem dX5_told_18 : decode cX5_told 18 = .ok (.ifCond .ne 7, 3) := by decide +kernel
theorem dX5_told_21 : decode cX5_told 21 = .ok (.sipush (-1000), 3) := by decide +kernel
theorem dX5_told_24 : decode cX5_told 24 = .ok (.ireturn, 1) := by decide +kernel
theorem dX5_told_25 : decode cX5_told 25 = .ok (.iload_n 2, 1) := by decide +kernel
theorem dX5_told_26 : decode cX5_told 26 = .ok (.iconst 4, 1) := by decide +kernel
theorem dX5_told_27 : decode cX5_told 27 = .ok (.if_icmp .ge 47, 3) := by decide +kernel
theorem dX5_told_30 : decode cX5_told 30 = .ok (.iload_n 2, 1) := by decide +kernel
theorem dX5_told_31 : decode cX5_told 31 = .ok (.ifCond .ne 10, 3) := by decide +kernel
theorem dX5_told_34 : decode cX5_told 34 = .ok (.aload_n 0, 1) := by decide +kernel
theorem dX5_told_35 : decode cX5_told 35 = .ok (.getfield 112, 3) := by decide +kernel
theorem dX5_told_38 : decode cX5_told 38 = .ok (.goto 35, 3) := by decide +kernel
theorem dX5_told_41 : decode cX5_told 41 = .ok (.iload_n 2, 1) := by decide +kernel
theorem dX5_told_42 : decode cX5_told 42 = .ok (.iconst 1, 1) := by decide +kernel
theorem dX5_told_43 : decode cX5_told 43 = .ok (.if_icmp .ne 10, 3) := by decide +kernel
theorem dX5_told_46 : decode cX5_told 46 = .ok (.aload_n 0, 1) := by decide +kernel
theorem dX5_told_47 : decode cX5_told 47 = .ok (.getfield 23, 3) := by decide +kernel
theorem dX5_told_50 : decode cX5_told 50 = .ok (.goto 23, 3) := by decide +kernel
theorem dX5_told_53 : decode cX5_told 53 = .ok (.iload_n 2, 1) := by decide +kernel
theorem dX5_told_54 : decode cX5_told 54 = .ok (.iconst 2, 1) := by decide +kernel
theorem dX5_told_55 : decode cX5_told 55 = .ok (.if_icmp .ne 12, 3) := by decide +kernel
theorem dX5_told_58 : decode cX5_told 58 = .ok (.aload_n 0, 1) := by decide +kernel
theorem dX5_told_59 : decode cX5_told 59 = .ok (.getfield 26, 3) := by decide +kernel
theorem dX5_told_62 : decode cX5_told 62 = .ok (.iload_n 1, 1) := by decide +kernel
theorem dX5_told_63 : decode cX5_told 63 = .ok (.iaload, 1) := by decide +kernel
theorem dX5_told_64 : decode cX5_told 64 = .ok (.goto 9, 3) := by decide +kernel
theorem dX5_told_67 : decode cX5_told 67 = .ok (.aload_n 0, 1) := by decide +kernel
theorem dX5_told_68 : decode cX5_told 68 = .ok (.getfield 32, 3) := by decide +kernel
theorem dX5_told_71 : decode cX5_told 71 = .ok (.iload_n 1, 1) := by decide +kernel
theorem dX5_told_72 : decode cX5_told 72 = .ok (.iaload, 1) := by decide +kernel
theorem dX5_told_73 : decode cX5_told 73 = .ok (.ireturn, 1) := by decide +kernel
theorem dX5_told_74 : decode cX5_told 74 = .ok (.iload_n 2, 1) := by decide +kernel
theorem dX5_told_75 : decode cX5_told 75 = .ok (.bipush 7, 2) := by decide +kernel
theorem dX5_told_77 : decode cX5_told 77 = .ok (.if_icmp .lt 9, 3) := by decide +kernel
theorem dX5_told_80 : decode cX5_told 80 = .ok (.iload_n 2, 1) := by decide +kernel
theorem dX5_told_81 : decode cX5_told 81 = .ok (.bipush 10, 2) := by decide +kernel
theorem dX5_told_83 : decode cX5_told 83 = .ok (.if_icmp .ne 52, 3) := by decide +kernel
theorem dX5_told_86 : decode cX5_told 86 = .ok (.iload_n 2, 1) := by decide +kernel
theorem dX5_told_87 : decode cX5_told 87 = .ok (.iconst 4, 1) := by decide +kernel
theorem dX5_told_88 : decode cX5_told 88 = .ok (.if_icmp .ne 12, 3) := by decide +kernel
theorem dX5_told_91 : decode cX5_told 91 = .ok (.aload_n 0, 1) := by decide +kernel
theorem dX5_told_92 : decode cX5_told 92 = .ok (.getfield 35, 3) := by decide +kernel
theorem dX5_told_95 : decode cX5_told 95 = .ok (.iload_n 1, 1) := by decide +kernel
theorem dX5_told_96 : decode cX5_told 96 = .ok (.iaload, 1) := by decide +kernel
theorem dX5_told_97 : decode cX5_told 97 = .ok (.goto 37, 3) := by decide +kernel
theorem dX5_told_100 : decode cX5_told 100 = .ok (.iload_n 2, 1) := by decide +kernel
theorem dX5_told_101 : decode cX5_told 101 = .ok (.iconst 5, 1) := by decide +kernel
theorem dX5_told_102 : decode cX5_told 102 = .ok (.if_icmp .ne 12, 3) := by decide +kernel
theorem dX5_told_105 : decode cX5_told 105 = .ok (.aload_n 0, 1) := by decide +kernel
theorem dX5_told_106 : decode cX5_told 106 = .ok (.getfield 29, 3) := by decide +kernel
theorem dX5_told_109 : decode cX5_told 109 = .ok (.iload_n 1, 1) := by decide +kernel
theorem dX5_told_110 : decode cX5_told 110 = .ok (.iaload, 1) := by decide +kernel
theorem dX5_told_111 : decode cX5_told 111 = .ok (.goto 23, 3) := by decide +kernel
theorem dX5_told_114 : decode cX5_told 114 = .ok (.aload_n 0, 1) := by decide +kernel
theorem dX5_told_115 : decode cX5_told 115 = .ok (.iload_n 2, 1) := by decide +kernel
theorem dX5_told_116 : decode cX5_told 116 = .ok (.bipush 6, 2) := by decide +kernel
theorem dX5_told_118 : decode cX5_told 118 = .ok (.if_icmp .ne 12, 3) := by decide +kernel
theorem dX5_told_121 : decode cX5_told 121 = .ok (.aload_n 0, 1) := by decide +kernel
theorem dX5_told_122 : decode cX5_told 122 = .ok (.getfield 35, 3) := by decide +kernel
theorem dX5_told_125 : decode cX5_told 125 = .ok (.iload_n 1, 1) := by decide +kernel
theorem dX5_told_126 : decode cX5_told 126 = .ok (.iaload, 1) := by decide +kernel
theorem dX5_told_127 : decode cX5_told 127 = .ok (.goto 4, 3) := by decide +kernel
theorem dX5_told_130 : decode cX5_told 130 = .ok (.iload_n 1, 1) := by decide +kernel
theorem dX5_told_131 : decode cX5_told 131 = .ok (.invokevirtual 124, 3) := by decide +kernel
theorem dX5_told_134 : decode cX5_told 134 = .ok (.ireturn, 1) := by decide +kernel
theorem dX5_told_135 : decode cX5_told 135 = .ok (.aload_n 0, 1) := by decide +kernel
theorem dX5_told_136 : decode cX5_told 136 = .ok (.getfield 35, 3) := by decide +kernel
theorem dX5_told_139 : decode cX5_told 139 = .ok (.iload_n 1, 1) := by decide +kernel
theorem dX5_told_140 : decode cX5_told 140 = .ok (.iaload, 1) := by decide +kernel
theorem dX5_told_141 : decode cX5_told 141 = .ok (.iconst (-1), 1) := by decide +kernel
theorem dX5_told_142 : decode cX5_told 142 = .ok (.if_icmp .ne 5, 3) := by decide +kernel
theorem dX5_told_145 : decode cX5_told 145 = .ok (.iconst (-1), 1) := by decide +kernel
theorem dX5_told_146 : decode cX5_told 146 = .ok (.ireturn, 1) := by decide +kernel
theorem dX5_told_147 : decode cX5_told 147 = .ok (.iload_n 2, 1) := by decide +kernel
theorem dX5_told_148 : decode cX5_told 148 = .ok (.bipush 7, 2) := by decide +kernel
theorem dX5_told_150 : decode cX5_told 150 = .ok (.if_icmp .ne 11, 3) := by decide +kernel
theorem dX5_told_153 : decode cX5_told 153 = .ok (.aload_n 0, 1) := by decide +kernel
theorem dX5_told_154 : decode cX5_told 154 = .ok (.iload_n 1, 1) := by decide +kernel
theorem dX5_told_155 : decode cX5_told 155 = .ok (.invokevirtual 127, 3) := by decide +kernel
theorem dX5_told_158 : decode cX5_told 158 = .ok (.goto 30, 3) := by decide +kernel
theorem dX5_told_161 : decode cX5_told 161 = .ok (.iload_n 2, 1) := by decide +kernel
theorem dX5_told_162 : decode cX5_told 162 = .ok (.bipush 8, 2) := by decide +kernel
theorem dX5_told_164 : decode cX5_told 164 = .ok (.if_icmp .ne 19, 3) := by decide +kernel
theorem dX5_told_167 : decode cX5_told 167 = .ok (.aload_n 0, 1) := by decide +kernel
theorem dX5_told_168 : decode cX5_told 168 = .ok (.iload_n 1, 1) := by decide +kernel
theorem dX5_told_169 : decode cX5_told 169 = .ok (.invokevirtual 130, 3) := by decide +kernel
theorem dX5_told_172 : decode cX5_told 172 = .ok (.ifCond .eq 7, 3) := by decide +kernel
theorem dX5_told_175 : decode cX5_told 175 = .ok (.iconst 1, 1) := by decide +kernel
theorem dX5_told_176 : decode cX5_told 176 = .ok (.goto 12, 3) := by decide +kernel
theorem dX5_told_179 : decode cX5_told 179 = .ok (.iconst 0, 1) := by decide +kernel
theorem dX5_told_180 : decode cX5_told 180 = .ok (.goto 8, 3) := by decide +kernel
theorem dX5_told_183 : decode cX5_told 183 = .ok (.aload_n 0, 1) := by decide +kernel
theorem dX5_told_184 : decode cX5_told 184 = .ok (.iload_n 1, 1) := by decide +kernel
theorem dX5_told_185 : decode cX5_told 185 = .ok (.invokevirtual 133, 3) := by decide +kernel
theorem dX5_told_188 : decode cX5_told 188 = .ok (.ireturn, 1) := by decide +kernel
abbrev cX5_feed : ByteArray := prog_7_method_15_code
abbrev mX5_feed : MethodName := { cls := "KinInTheHeapModel", name := "feed", desc := "(I)I" }
theorem mwX5_feed : MWV mX5_feed (.code mX5_feed cX5_feed 2 (some .int)) "KinInTheHeapModel" 1 := ⟨w1222, w1220, w1221, w103, w103, by decide +kernel⟩
theorem dX5_feed_0 : decode cX5_feed 0 = .ok (.iload_n 1, 1) := by decide +kernel
theorem dX5_feed_1 : decode cX5_feed 1 = .ok (.i2l, 1) := by decide +kernel
theorem dX5_feed_2 : decode cX5_feed 2 = .ok (.lconst 0, 1) := by decide +kernel
theorem dX5_feed_3 : decode cX5_feed 3 = .ok (.ldc2_w 136, 3) := by decide +kernel
theorem dX5_feed_6 : decode cX5_feed 6 = .ok (.invokestatic 79, 3) := by decide +kernel
theorem dX5_feed_9 : decode cX5_feed 9 = .ok (.ifCond .ne 6, 3) := by decide +kernel
theorem dX5_feed_12 : decode cX5_feed 12 = .ok (.bipush (-2), 2) := by decide +kernel
theorem dX5_feed_14 : decode cX5_feed 14 = .ok (.ireturn, 1) := by decide +kernel
theorem dX5_feed_15 : decode cX5_feed 15 = .ok (.aload_n 0, 1) := by decide +kernel
theorem dX5_feed_16 : decode cX5_feed 16 = .ok (.getfield 138, 3) := by decide +kernel
theorem dX5_feed_19 : decode cX5_feed 19 = .ok (.sipush 160, 3) := by decide +kernel
theorem dX5_feed_22 : decode cX5_feed 22 = .ok (.if_icmp .ne 6, 3) := by decide +kernel
theorem dX5_feed_25 : decode cX5_feed 25 = .ok (.bipush (-4), 2) := by decide +kernel
theorem dX5_feed_27 : decode cX5_feed 27 = .ok (.ireturn, 1) := by decide +kernel
theorem dX5_feed_28 : decode cX5_feed 28 = .ok (.aload_n 0, 1) := by decide +kernel
theorem dX5_feed_29 : decode cX5_feed 29 = .ok (.getfield 20, 3) := by decide +kernel
theorem dX5_feed_32 : decode cX5_feed 32 = .ok (.aload_n 0, 1) := by decide +kernel
theorem dX5_feed_33 : decode cX5_feed 33 = .ok (.getfield 138, 3) := by decide +kernel
theorem dX5_feed_36 : decode cX5_feed 36 = .ok (.iload_n 1, 1) := by decide +kernel
theorem dX5_feed_37 : decode cX5_feed 37 = .ok (.iastore, 1) := by decide +kernel
theorem dX5_feed_38 : decode cX5_feed 38 = .ok (.aload_n 0, 1) := by decide +kernel
theorem dX5_feed_39 : decode cX5_feed 39 = .ok (.dup, 1) := by decide +kernel
theorem dX5_feed_40 : decode cX5_feed 40 = .ok (.getfield 138, 3) := by decide +kernel
theorem dX5_feed_43 : decode cX5_feed 43 = .ok (.iconst 1, 1) := by decide +kernel
theorem dX5_feed_44 : decode cX5_feed 44 = .ok (.iadd, 1) := by decide +kernel
theorem dX5_feed_45 : decode cX5_feed 45 = .ok (.putfield 138, 3) := by decide +kernel
theorem dX5_feed_48 : decode cX5_feed 48 = .ok (.aload_n 0, 1) := by decide +kernel
theorem dX5_feed_49 : decode cX5_feed 49 = .ok (.getfield 138, 3) := by decide +kernel
theorem dX5_feed_52 : decode cX5_feed 52 = .ok (.ireturn, 1) := by decide +kernel
abbrev cX5_byteAt : ByteArray := prog_7_method_16_code
abbrev mX5_byteAt : MethodName := { cls := "KinInTheHeapModel", name := "byteAt", desc := "(I)I" }
theorem mwX5_byteAt : MWV mX5_byteAt (.code mX5_byteAt cX5_byteAt 2 (some .int)) "KinInTheHeapModel" 1 := ⟨w1138, w1137, w57, w103, w103, by decide +kernel⟩
theorem dX5_byteAt_0 : decode cX5_byteAt 0 = .ok (.iload_n 1, 1) := by decide +kernel
theorem dX5_byteAt_1 : decode cX5_byteAt 1 = .ok (.aload_n 0, 1) := by decide +kernel
theorem dX5_byteAt_2 : decode cX5_byteAt 2 = .ok (.getfield 141, 3) := by decide +kernel
theorem dX5_byteAt_5 : decode cX5_byteAt 5 = .ok (.if_icmp .ge 17, 3) := by decide +kernel
theorem dX5_byteAt_8 : decode cX5_byteAt 8 = .ok (.aload_n 0, 1) := by decide +kernel
theorem dX5_byteAt_9 : decode cX5_byteAt 9 = .ok (.getfield 13, 3) := by decide +kernel
theorem dX5_byteAt_12 : decode cX5_byteAt 12 = .ok (.aload_n 0, 1) := by decide +kernel
theorem dX5_byteAt_13 : decode cX5_byteAt 13 = .ok (.getfield 144, 3) := by decide +kernel
theorem dX5_byteAt_16 : decode cX5_byteAt 16 = .ok (.iload_n 1, 1) := by decide +kernel
theorem dX5_byteAt_17 : decode cX5_byteAt 17 = .ok (.iadd, 1) := by decide +kernel
theorem dX5_byteAt_18 : decode cX5_byteAt 18 = .ok (.iaload, 1) := by decide +kernel
theorem dX5_byteAt_19 : decode cX5_byteAt 19 = .ok (.goto 4, 3) := by decide +kernel
theorem dX5_byteAt_22 : decode cX5_byteAt 22 = .ok (.iconst (-1), 1) := by decide +kernel
theorem dX5_byteAt_23 : decode cX5_byteAt 23 = .ok (.ireturn, 1) := by decide +kernel
abbrev cX5_next : ByteArray := prog_7_method_17_code
abbrev mX5_next : MethodName := { cls := "KinInTheHeapModel", name := "next", desc := "()V" }
theorem mwX5_next : MWV mX5_next (.code mX5_next cX5_next 3 none) "KinInTheHeapModel" 0 := ⟨w1134, w1133, w56, w103, w103, by decide +kernel⟩
theorem dX5_next_0 : decode cX5_next 0 = .ok (.aload_n 0, 1) := by decide +kernel
theorem dX5_next_1 : decode cX5_next 1 = .ok (.aload_n 0, 1) := by decide +kernel
theorem dX5_next_2 : decode cX5_next 2 = .ok (.getfield 147, 3) := by decide +kernel
theorem dX5_next_5 : decode cX5_next 5 = .ok (.invokevirtual 150, 3) := by decide +kernel
theorem dX5_next_8 : decode cX5_next 8 = .ok (.bipush 32, 2) := by decide +kernel
theorem dX5_next_10 : decode cX5_next 10 = .ok (.if_icmp .eq 16, 3) := by decide +kernel
theorem dX5_next_13 : decode cX5_next 13 = .ok (.aload_n 0, 1) := by decide +kernel
theorem dX5_next_14 : decode cX5_next 14 = .ok (.aload_n 0, 1) := by decide +kernel
theorem dX5_next_15 : decode cX5_next 15 = .ok (.getfield 147, 3) := by decide +kernel
theorem dX5_next_18 : decode cX5_next 18 = .ok (.invokevirtual 150, 3) := by decide +kernel
theorem dX5_next_21 : decode cX5_next 21 = .ok (.bipush 10, 2) := by decide +kernel
theorem dX5_next_23 : decode cX5_next 23 = .ok (.if_icmp .ne 16, 3) := by decide +kernel
theorem dX5_next_26 : decode cX5_next 26 = .ok (.aload_n 0, 1) := by decide +kernel
theorem dX5_next_27 : decode cX5_next 27 = .ok (.dup, 1) := by decide +kernel
theorem dX5_next_28 : decode cX5_next 28 = .ok (.getfield 147, 3) := by decide +kernel
theorem dX5_next_31 : decode cX5_next 31 = .ok (.iconst 1, 1) := by decide +kernel
theorem dX5_next_32 : decode cX5_next 32 = .ok (.iadd, 1) := by decide +kernel
theorem dX5_next_33 : decode cX5_next 33 = .ok (.putfield 147, 3) := by decide +kernel
theorem dX5_next_36 : decode cX5_next 36 = .ok (.goto (-36), 3) := by decide +kernel
theorem dX5_next_39 : decode cX5_next 39 = .ok (.aload_n 0, 1) := by decide +kernel
theorem dX5_next_40 : decode cX5_next 40 = .ok (.aload_n 0, 1) := by decide +kernel
theorem dX5_next_41 : decode cX5_next 41 = .ok (.getfield 147, 3) := by decide +kernel
theorem dX5_next_44 : decode cX5_next 44 = .ok (.putfield 153, 3) := by decide +kernel
theorem dX5_next_47 : decode cX5_next 47 = .ok (.aload_n 0, 1) := by decide +kernel
theorem dX5_next_48 : decode cX5_next 48 = .ok (.aload_n 0, 1) := by decide +kernel
theorem dX5_next_49 : decode cX5_next 49 = .ok (.getfield 147, 3) := by decide +kernel
theorem dX5_next_52 : decode cX5_next 52 = .ok (.invokevirtual 150, 3) := by decide +kernel
theorem dX5_next_55 : decode cX5_next 55 = .ok (.istore_n 1, 1) := by decide +kernel
theorem dX5_next_56 : decode cX5_next 56 = .ok (.aload_n 0, 1) := by decide +kernel
theorem dX5_next_57 : decode cX5_next 57 = .ok (.iconst 4, 1) := by decide +kernel
theorem dX5_next_58 : decode cX5_next 58 = .ok (.putfield 156, 3) := by decide +kernel
theorem dX5_next_61 : decode cX5_next 61 = .ok (.iload_n 1, 1) := by decide +kernel
theorem dX5_next_62 : decode cX5_next 62 = .ok (.ifCond .ge 19, 3) := by decide +kernel
theorem dX5_next_65 : decode cX5_next 65 = .ok (.aload_n 0, 1) := by decide +kernel
theorem dX5_next_66 : decode cX5_next 66 = .ok (.iconst 0, 1) := by decide +kernel
theorem dX5_next_67 : decode cX5_next 67 = .ok (.putfield 156, 3) := by decide +kernel
theorem dX5_next_70 : decode cX5_next 70 = .ok (.aload_n 0, 1) := by decide +kernel
theorem dX5_next_71 : decode cX5_next 71 = .ok (.aload_n 0, 1) := by decide +kernel
theorem dX5_next_72 : decode cX5_next 72 = .ok (.getfield 141, 3) := by decide +kernel
theorem dX5_next_75 : decode cX5_next 75 = .ok (.putfield 153, 3) := by decide +kernel
theorem dX5_next_78 : decode cX5_next 78 = .ok (.goto 243, 3) := by decide +kernel
theorem dX5_next_81 : decode cX5_next 81 = .ok (.iload_n 1, 1) := by decide +kernel
theorem dX5_next_82 : decode cX5_next 82 = .ok (.i2l, 1) := by decide +kernel
theorem dX5_next_83 : decode cX5_next 83 = .ok (.ldc2_w 159, 3) := by decide +kernel
theorem dX5_next_86 : decode cX5_next 86 = .ok (.ldc2_w 161, 3) := by decide +kernel
theorem dX5_next_89 : decode cX5_next 89 = .ok (.invokestatic 79, 3) := by decide +kernel
theorem dX5_next_92 : decode cX5_next 92 = .ok (.ifCond .eq 42, 3) := by decide +kernel
theorem dX5_next_95 : decode cX5_next 95 = .ok (.aload_n 0, 1) := by decide +kernel
theorem dX5_next_96 : decode cX5_next 96 = .ok (.iconst 1, 1) := by decide +kernel
theorem dX5_next_97 : decode cX5_next 97 = .ok (.putfield 156, 3) := by decide +kernel
theorem dX5_next_100 : decode cX5_next 100 = .ok (.aload_n 0, 1) := by decide +kernel
theorem dX5_next_101 : decode cX5_next 101 = .ok (.aload_n 0, 1) := by decide +kernel
theorem dX5_next_102 : decode cX5_next 102 = .ok (.getfield 147, 3) := by decide +kernel
theorem dX5_next_105 : decode cX5_next 105 = .ok (.invokevirtual 150, 3) := by decide +kernel
theorem dX5_next_108 : decode cX5_next 108 = .ok (.i2l, 1) := by decide +kernel
theorem dX5_next_109 : decode cX5_next 109 = .ok (.ldc2_w 159, 3) := by decide +kernel
theorem dX5_next_112 : decode cX5_next 112 = .ok (.ldc2_w 161, 3) := by decide +kernel
theorem dX5_next_115 : decode cX5_next 115 = .ok (.invokestatic 79, 3) := by decide +kernel
theorem dX5_next_118 : decode cX5_next 118 = .ok (.ifCond .eq 203, 3) := by decide +kernel
theorem dX5_next_121 : decode cX5_next 121 = .ok (.aload_n 0, 1) := by decide +kernel
theorem dX5_next_122 : decode cX5_next 122 = .ok (.dup, 1) := by decide +kernel
theorem dX5_next_123 : decode cX5_next 123 = .ok (.getfield 147, 3) := by decide +kernel
theorem dX5_next_126 : decode cX5_next 126 = .ok (.iconst 1, 1) := by decide +kernel
theorem dX5_next_127 : decode cX5_next 127 = .ok (.iadd, 1) := by decide +kernel
theorem dX5_next_128 : decode cX5_next 128 = .ok (.putfield 147, 3) := by decide +kernel
theorem dX5_next_131 : decode cX5_next 131 = .ok (.goto (-31), 3) := by decide +kernel
theorem dX5_next_134 : decode cX5_next 134 = .ok (.iload_n 1, 1) := by decide +kernel
theorem dX5_next_135 : decode cX5_next 135 = .ok (.i2l, 1) := by decide +kernel
theorem dX5_next_136 : decode cX5_next 136 = .ok (.ldc2_w 163, 3) := by decide +kernel
theorem dX5_next_139 : decode cX5_next 139 = .ok (.ldc2_w 165, 3) := by decide +kernel
theorem dX5_next_142 : decode cX5_next 142 = .ok (.invokestatic 79, 3) := by decide +kernel
theorem dX5_next_145 : decode cX5_next 145 = .ok (.ifCond .eq 107, 3) := by decide +kernel
theorem dX5_next_148 : decode cX5_next 148 = .ok (.aload_n 0, 1) := by decide +kernel
theorem dX5_next_149 : decode cX5_next 149 = .ok (.iconst 2, 1) := by decide +kernel
theorem dX5_next_150 : decode cX5_next 150 = .ok (.putfield 156, 3) := by decide +kernel
theorem dX5_next_153 : decode cX5_next 153 = .ok (.aload_n 0, 1) := by decide +kernel
theorem dX5_next_154 : decode cX5_next 154 = .ok (.lconst 0, 1) := by decide +kernel
theorem dX5_next_155 : decode cX5_next 155 = .ok (.putfield 167, 3) := by decide +kernel
theorem dX5_next_158 : decode cX5_next 158 = .ok (.iconst 0, 1) := by decide +kernel
theorem dX5_next_159 : decode cX5_next 159 = .ok (.istore_n 2, 1) := by decide +kernel
theorem dX5_next_160 : decode cX5_next 160 = .ok (.aload_n 0, 1) := by decide +kernel
theorem dX5_next_161 : decode cX5_next 161 = .ok (.aload_n 0, 1) := by decide +kernel
theorem dX5_next_162 : decode cX5_next 162 = .ok (.getfield 147, 3) := by decide +kernel
theorem dX5_next_165 : decode cX5_next 165 = .ok (.invokevirtual 150, 3) := by decide +kernel
theorem dX5_next_168 : decode cX5_next 168 = .ok (.i2l, 1) := by decide +kernel
theorem dX5_next_169 : decode cX5_next 169 = .ok (.ldc2_w 163, 3) := by decide +kernel
theorem dX5_next_172 : decode cX5_next 172 = .ok (.ldc2_w 165, 3) := by decide +kernel
theorem dX5_next_175 : decode cX5_next 175 = .ok (.invokestatic 79, 3) := by decide +kernel
theorem dX5_next_178 : decode cX5_next 178 = .ok (.ifCond .eq 57, 3) := by decide +kernel
theorem dX5_next_181 : decode cX5_next 181 = .ok (.aload_n 0, 1) := by decide +kernel
theorem dX5_next_182 : decode cX5_next 182 = .ok (.iload_n 2, 1) := by decide +kernel
theorem dX5_next_183 : decode cX5_next 183 = .ok (.iconst 4, 1) := by decide +kernel
theorem dX5_next_184 : decode cX5_next 184 = .ok (.if_icmp .ge 28, 3) := by decide +kernel
theorem dX5_next_187 : decode cX5_next 187 = .ok (.ldc2_w 122, 3) := by decide +kernel
theorem dX5_next_190 : decode cX5_next 190 = .ok (.aload_n 0, 1) := by decide +kernel
theorem dX5_next_191 : decode cX5_next 191 = .ok (.getfield 167, 3) := by decide +kernel
theorem dX5_next_194 : decode cX5_next 194 = .ok (.lmul, 1) := by decide +kernel
theorem dX5_next_195 : decode cX5_next 195 = .ok (.aload_n 0, 1) := by decide +kernel
theorem dX5_next_196 : decode cX5_next 196 = .ok (.aload_n 0, 1) := by decide +kernel
theorem dX5_next_197 : decode cX5_next 197 = .ok (.getfield 147, 3) := by decide +kernel
theorem dX5_next_200 : decode cX5_next 200 = .ok (.invokevirtual 150, 3) := by decide +kernel
theorem dX5_next_203 : decode cX5_next 203 = .ok (.i2l, 1) := by decide +kernel
theorem dX5_next_204 : decode cX5_next 204 = .ok (.ladd, 1) := by decide +kernel
theorem dX5_next_205 : decode cX5_next 205 = .ok (.ldc2_w 163, 3) := by decide +kernel
theorem dX5_next_208 : decode cX5_next 208 = .ok (.lsub, 1) := by decide +kernel
theorem dX5_next_209 : decode cX5_next 209 = .ok (.goto 7, 3) := by decide +kernel
theorem dX5_next_212 : decode cX5_next 212 = .ok (.aload_n 0, 1) := by decide +kernel
theorem dX5_next_213 : decode cX5_next 213 = .ok (.getfield 167, 3) := by decide +kernel
theorem dX5_next_216 : decode cX5_next 216 = .ok (.putfield 167, 3) := by decide +kernel
theorem dX5_next_219 : decode cX5_next 219 = .ok (.iinc 2 1, 3) := by decide +kernel
theorem dX5_next_222 : decode cX5_next 222 = .ok (.aload_n 0, 1) := by decide +kernel
theorem dX5_next_223 : decode cX5_next 223 = .ok (.dup, 1) := by decide +kernel
theorem dX5_next_224 : decode cX5_next 224 = .ok (.getfield 147, 3) := by decide +kernel
theorem dX5_next_227 : decode cX5_next 227 = .ok (.iconst 1, 1) := by decide +kernel
theorem dX5_next_228 : decode cX5_next 228 = .ok (.iadd, 1) := by decide +kernel
theorem dX5_next_229 : decode cX5_next 229 = .ok (.putfield 147, 3) := by decide +kernel
theorem dX5_next_232 : decode cX5_next 232 = .ok (.goto (-72), 3) := by decide +kernel
theorem dX5_next_235 : decode cX5_next 235 = .ok (.aload_n 0, 1) := by decide +kernel
theorem dX5_next_236 : decode cX5_next 236 = .ok (.iload_n 2, 1) := by decide +kernel
theorem dX5_next_237 : decode cX5_next 237 = .ok (.iconst 4, 1) := by decide +kernel
theorem dX5_next_238 : decode cX5_next 238 = .ok (.if_icmp .le 7, 3) := by decide +kernel
theorem dX5_next_241 : decode cX5_next 241 = .ok (.iconst 4, 1) := by decide +kernel
theorem dX5_next_242 : decode cX5_next 242 = .ok (.goto 4, 3) := by decide +kernel
theorem dX5_next_245 : decode cX5_next 245 = .ok (.iconst 2, 1) := by decide +kernel
theorem dX5_next_246 : decode cX5_next 246 = .ok (.putfield 156, 3) := by decide +kernel
theorem dX5_next_249 : decode cX5_next 249 = .ok (.goto 72, 3) := by decide +kernel
theorem dX5_next_252 : decode cX5_next 252 = .ok (.iload_n 1, 1) := by decide +kernel
theorem dX5_next_253 : decode cX5_next 253 = .ok (.bipush 40, 2) := by decide +kernel
theorem dX5_next_255 : decode cX5_next 255 = .ok (.if_icmp .eq 45, 3) := by decide +kernel
theorem dX5_next_258 : decode cX5_next 258 = .ok (.iload_n 1, 1) := by decide +kernel
theorem dX5_next_259 : decode cX5_next 259 = .ok (.bipush 41, 2) := by decide +kernel
theorem dX5_next_261 : decode cX5_next 261 = .ok (.if_icmp .eq 39, 3) := by decide +kernel
theorem dX5_next_264 : decode cX5_next 264 = .ok (.iload_n 1, 1) := by decide +kernel
theorem dX5_next_265 : decode cX5_next 265 = .ok (.bipush 59, 2) := by decide +kernel
theorem dX5_next_267 : decode cX5_next 267 = .ok (.if_icmp .eq 33, 3) := by decide +kernel
theorem dX5_next_270 : decode cX5_next 270 = .ok (.iload_n 1, 1) := by decide +kernel
theorem dX5_next_271 : decode cX5_next 271 = .ok (.bipush 43, 2) := by decide +kernel
theorem dX5_next_273 : decode cX5_next 273 = .ok (.if_icmp .eq 27, 3) := by decide +kernel
theorem dX5_next_276 : decode cX5_next 276 = .ok (.iload_n 1, 1) := by decide +kernel
theorem dX5_next_277 : decode cX5_next 277 = .ok (.bipush 45, 2) := by decide +kernel
theorem dX5_next_279 : decode cX5_next 279 = .ok (.if_icmp .eq 21, 3) := by decide +kernel
theorem dX5_next_282 : decode cX5_next 282 = .ok (.iload_n 1, 1) := by decide +kernel
theorem dX5_next_283 : decode cX5_next 283 = .ok (.bipush 42, 2) := by decide +kernel
theorem dX5_next_285 : decode cX5_next 285 = .ok (.if_icmp .eq 15, 3) := by decide +kernel
theorem dX5_next_288 : decode cX5_next 288 = .ok (.iload_n 1, 1) := by decide +kernel
theorem dX5_next_289 : decode cX5_next 289 = .ok (.bipush 60, 2) := by decide +kernel
theorem dX5_next_291 : decode cX5_next 291 = .ok (.if_icmp .eq 9, 3) := by decide +kernel
theorem dX5_next_294 : decode cX5_next 294 = .ok (.iload_n 1, 1) := by decide +kernel
theorem dX5_next_295 : decode cX5_next 295 = .ok (.bipush 61, 2) := by decide +kernel
theorem dX5_next_297 : decode cX5_next 297 = .ok (.if_icmp .ne 24, 3) := by decide +kernel
theorem dX5_next_300 : decode cX5_next 300 = .ok (.aload_n 0, 1) := by decide +kernel
theorem dX5_next_301 : decode cX5_next 301 = .ok (.iconst 3, 1) := by decide +kernel
theorem dX5_next_302 : decode cX5_next 302 = .ok (.putfield 156, 3) := by decide +kernel
theorem dX5_next_305 : decode cX5_next 305 = .ok (.aload_n 0, 1) := by decide +kernel
theorem dX5_next_306 : decode cX5_next 306 = .ok (.iload_n 1, 1) := by decide +kernel
theorem dX5_next_307 : decode cX5_next 307 = .ok (.i2l, 1) := by decide +kernel
theorem dX5_next_308 : decode cX5_next 308 = .ok (.putfield 167, 3) := by decide +kernel
theorem dX5_next_311 : decode cX5_next 311 = .ok (.aload_n 0, 1) := by decide +kernel
theorem dX5_next_312 : decode cX5_next 312 = .ok (.dup, 1) := by decide +kernel
theorem dX5_next_313 : decode cX5_next 313 = .ok (.getfield 147, 3) := by decide +kernel
theorem dX5_next_316 : decode cX5_next 316 = .ok (.iconst 1, 1) := by decide +kernel
theorem dX5_next_317 : decode cX5_next 317 = .ok (.iadd, 1) := by decide +kernel
theorem dX5_next_318 : decode cX5_next 318 = .ok (.putfield 147, 3) := by decide +kernel
theorem dX5_next_321 : decode cX5_next 321 = .ok (.return_, 1) := by decide +kernel
abbrev cX5_fail : ByteArray := prog_7_method_18_code
abbrev mX5_fail : MethodName := { cls := "KinInTheHeapModel", name := "fail", desc := "()V" }
theorem mwX5_fail : MWV mX5_fail (.code mX5_fail cX5_fail 1 none) "KinInTheHeapModel" 0 := ⟨w1158, w1157, w61, w103, w103, by decide +kernel⟩
theorem dX5_fail_0 : decode cX5_fail 0 = .ok (.aload_n 0, 1) := by decide +kernel
theorem dX5_fail_1 : decode cX5_fail 1 = .ok (.getfield 171, 3) := by decide +kernel
theorem dX5_fail_4 : decode cX5_fail 4 = .ok (.ifCond .ne 16, 3) := by decide +kernel
theorem dX5_fail_7 : decode cX5_fail 7 = .ok (.aload_n 0, 1) := by decide +kernel
theorem dX5_fail_8 : decode cX5_fail 8 = .ok (.iconst 1, 1) := by decide +kernel
theorem dX5_fail_9 : decode cX5_fail 9 = .ok (.putfield 171, 3) := by decide +kernel
theorem dX5_fail_12 : decode cX5_fail 12 = .ok (.aload_n 0, 1) := by decide +kernel
theorem dX5_fail_13 : decode cX5_fail 13 = .ok (.aload_n 0, 1) := by decide +kernel
theorem dX5_fail_14 : decode cX5_fail 14 = .ok (.getfield 153, 3) := by decide +kernel
theorem dX5_fail_17 : decode cX5_fail 17 = .ok (.putfield 175, 3) := by decide +kernel
theorem dX5_fail_20 : decode cX5_fail 20 = .ok (.return_, 1) := by decide +kernel
abbrev cX5_isLetter : ByteArray := prog_7_method_19_code
abbrev mX5_isLetter : MethodName := { cls := "KinInTheHeapModel", name := "isLetter", desc := "(II)Z" }
theorem mwX5_isLetter : MWV mX5_isLetter (.code mX5_isLetter cX5_isLetter 3 (some .boolean)) "KinInTheHeapModel" 2 := ⟨w1150, w1149, w59, w103, w103, by decide +kernel⟩
theorem dX5_isLetter_0 : decode cX5_isLetter 0 = .ok (.aload_n 0, 1) := by decide +kernel
theorem dX5_isLetter_1 : decode cX5_isLetter 1 = .ok (.getfield 153, 3) := by decide +kernel
theorem dX5_isLetter_4 : decode cX5_isLetter 4 = .ok (.iload_n 1, 1) := by decide +kernel
theorem dX5_isLetter_5 : decode cX5_isLetter 5 = .ok (.iadd, 1) := by decide +kernel
theorem dX5_isLetter_6 : decode cX5_isLetter 6 = .ok (.aload_n 0, 1) := by decide +kernel
theorem dX5_isLetter_7 : decode cX5_isLetter 7 = .ok (.getfield 147, 3) := by decide +kernel
theorem dX5_isLetter_10 : decode cX5_isLetter 10 = .ok (.if_icmp .ge 25, 3) := by decide +kernel
theorem dX5_isLetter_13 : decode cX5_isLetter 13 = .ok (.aload_n 0, 1) := by decide +kernel
theorem dX5_isLetter_14 : decode cX5_isLetter 14 = .ok (.aload_n 0, 1) := by decide +kernel
theorem dX5_isLetter_15 : decode cX5_isLetter 15 = .ok (.getfield 153, 3) := by decide +kernel
theorem dX5_isLetter_18 : decode cX5_isLetter 18 = .ok (.iload_n 1, 1) := by decide +kernel
theorem dX5_isLetter_19 : decode cX5_isLetter 19 = .ok (.iadd, 1) := by decide +kernel
theorem dX5_isLetter_20 : decode cX5_isLetter 20 = .ok (.invokevirtual 150, 3) := by decide +kernel
theorem dX5_isLetter_23 : decode cX5_isLetter 23 = .ok (.iload_n 2, 1) := by decide +kernel
theorem dX5_isLetter_24 : decode cX5_isLetter 24 = .ok (.if_icmp .ne 7, 3) := by decide +kernel
theorem dX5_isLetter_27 : decode cX5_isLetter 27 = .ok (.iconst 1, 1) := by decide +kernel
theorem dX5_isLetter_28 : decode cX5_isLetter 28 = .ok (.goto 16, 3) := by decide +kernel
theorem dX5_isLetter_31 : decode cX5_isLetter 31 = .ok (.iconst 0, 1) := by decide +kernel
theorem dX5_isLetter_32 : decode cX5_isLetter 32 = .ok (.goto 12, 3) := by decide +kernel
theorem dX5_isLetter_35 : decode cX5_isLetter 35 = .ok (.iload_n 2, 1) := by decide +kernel
theorem dX5_isLetter_36 : decode cX5_isLetter 36 = .ok (.ifCond .ne 7, 3) := by decide +kernel
theorem dX5_isLetter_39 : decode cX5_isLetter 39 = .ok (.iconst 1, 1) := by decide +kernel
theorem dX5_isLetter_40 : decode cX5_isLetter 40 = .ok (.goto 4, 3) := by decide +kernel
theorem dX5_isLetter_43 : decode cX5_isLetter 43 = .ok (.iconst 0, 1) := by decide +kernel
theorem dX5_isLetter_44 : decode cX5_isLetter 44 = .ok (.ireturn, 1) := by decide +kernel
abbrev cX5_isWord : ByteArray := prog_7_method_20_code
abbrev mX5_isWord : MethodName := { cls := "KinInTheHeapModel", name := "isWord", desc := "(IIIIIIII)Z" }
theorem mwX5_isWord : MWV mX5_isWord (.code mX5_isWord cX5_isWord 9 (some .boolean)) "KinInTheHeapModel" 8 := ⟨w1146, w1145, w58, w103, w103, by decide +kernel⟩
theorem dX5_isWord_0 : decode cX5_isWord 0 = .ok (.aload_n 0, 1) := by decide +kernel
theorem dX5_isWord_1 : decode cX5_isWord 1 = .ok (.getfield 171, 3) := by decide +kernel
theorem dX5_isWord_4 : decode cX5_isWord 4 = .ok (.ifCond .ne 108, 3) := by decide +kernel
theorem dX5_isWord_7 : decode cX5_isWord 7 = .ok (.aload_n 0, 1) := by decide +kernel
theorem dX5_isWord_8 : decode cX5_isWord 8 = .ok (.getfield 156, 3) := by decide +kernel
theorem dX5_isWord_11 : decode cX5_isWord 11 = .ok (.iconst 1, 1) := by decide +kernel
theorem dX5_isWord_12 : decode cX5_isWord 12 = .ok (.if_icmp .ne 100, 3) := by decide +kernel
theorem dX5_isWord_15 : decode cX5_isWord 15 = .ok (.aload_n 0, 1) := by decide +kernel
theorem dX5_isWord_16 : decode cX5_isWord 16 = .ok (.getfield 147, 3) := by decide +kernel
theorem dX5_isWord_19 : decode cX5_isWord 19 = .ok (.aload_n 0, 1) := by decide +kernel
theorem dX5_isWord_20 : decode cX5_isWord 20 = .ok (.getfield 153, 3) := by decide +kernel
theorem dX5_isWord_23 : decode cX5_isWord 23 = .ok (.bipush 8, 2) := by decide +kernel
theorem dX5_isWord_25 : decode cX5_isWord 25 = .ok (.iadd, 1) := by decide +kernel
theorem dX5_isWord_26 : decode cX5_isWord 26 = .ok (.if_icmp .gt 86, 3) := by decide +kernel
theorem dX5_isWord_29 : decode cX5_isWord 29 = .ok (.aload_n 0, 1) := by decide +kernel
theorem dX5_isWord_30 : decode cX5_isWord 30 = .ok (.iconst 0, 1) := by decide +kernel
theorem dX5_isWord_31 : decode cX5_isWord 31 = .ok (.iload_n 1, 1) := by decide +kernel
theorem dX5_isWord_32 : decode cX5_isWord 32 = .ok (.invokevirtual 178, 3) := by decide +kernel
theorem dX5_isWord_35 : decode cX5_isWord 35 = .ok (.ifCond .eq 77, 3) := by decide +kernel
theorem dX5_isWord_38 : decode cX5_isWord 38 = .ok (.aload_n 0, 1) := by decide +kernel
theorem dX5_isWord_39 : decode cX5_isWord 39 = .ok (.iconst 1, 1) := by decide +kernel
theorem dX5_isWord_40 : decode cX5_isWord 40 = .ok (.iload_n 2, 1) := by decide +kernel
theorem dX5_isWord_41 : decode cX5_isWord 41 = .ok (.invokevirtual 178, 3) := by decide +kernel
theorem dX5_isWord_44 : decode cX5_isWord 44 = .ok (.ifCond .eq 68, 3) := by decide +kernel
theorem dX5_isWord_47 : decode cX5_isWord 47 = .ok (.aload_n 0, 1) := by decide +kernel
theorem dX5_isWord_48 : decode cX5_isWord 48 = .ok (.iconst 2, 1) := by decide +kernel
theorem dX5_isWord_49 : decode cX5_isWord 49 = .ok (.iload_n 3, 1) := by decide +kernel
theorem dX5_isWord_50 : decode cX5_isWord 50 = .ok (.invokevirtual 178, 3) := by decide +kernel
theorem dX5_isWord_53 : decode cX5_isWord 53 = .ok (.ifCond .eq 59, 3) := by decide +kernel
theorem dX5_isWord_56 : decode cX5_isWord 56 = .ok (.aload_n 0, 1) := by decide +kernel
theorem dX5_isWord_57 : decode cX5_isWord 57 = .ok (.iconst 3, 1) := by decide +kernel
theorem dX5_isWord_58 : decode cX5_isWord 58 = .ok (.iload 4, 2) := by decide +kernel
theorem dX5_isWord_60 : decode cX5_isWord 60 = .ok (.invokevirtual 178, 3) := by decide +kernel
theorem dX5_isWord_63 : decode cX5_isWord 63 = .ok (.ifCond .eq 49, 3) := by decide +kernel
theorem dX5_isWord_66 : decode cX5_isWord 66 = .ok (.aload_n 0, 1) := by decide +kernel
theorem dX5_isWord_67 : decode cX5_isWord 67 = .ok (.iconst 4, 1) := by decide +kernel
theorem dX5_isWord_68 : decode cX5_isWord 68 = .ok (.iload 5, 2) := by decide +kernel
theorem dX5_isWord_70 : decode cX5_isWord 70 = .ok (.invokevirtual 178, 3) := by decide +kernel
theorem dX5_isWord_73 : decode cX5_isWord 73 = .ok (.ifCond .eq 39, 3) := by decide +kernel
theorem dX5_isWord_76 : decode cX5_isWord 76 = .ok (.aload_n 0, 1) := by decide +kernel
theorem dX5_isWord_77 : decode cX5_isWord 77 = .ok (.iconst 5, 1) := by decide +kernel
theorem dX5_isWord_78 : decode cX5_isWord 78 = .ok (.iload 6, 2) := by decide +kernel
theorem dX5_isWord_80 : decode cX5_isWord 80 = .ok (.invokevirtual 178, 3) := by decide +kernel
theorem dX5_isWord_83 : decode cX5_isWord 83 = .ok (.ifCond .eq 29, 3) := by decide +kernel
theorem dX5_isWord_86 : decode cX5_isWord 86 = .ok (.aload_n 0, 1) := by decide +kernel
theorem dX5_isWord_87 : decode cX5_isWord 87 = .ok (.bipush 6, 2) := by decide +kernel
theorem dX5_isWord_89 : decode cX5_isWord 89 = .ok (.iload 7, 2) := by decide +kernel
theorem dX5_isWord_91 : decode cX5_isWord 91 = .ok (.invokevirtual 178, 3) := by decide +kernel
theorem dX5_isWord_94 : decode cX5_isWord 94 = .ok (.ifCond .eq 18, 3) := by decide +kernel
theorem dX5_isWord_97 : decode cX5_isWord 97 = .ok (.aload_n 0, 1) := by decide +kernel
theorem dX5_isWord_98 : decode cX5_isWord 98 = .ok (.bipush 7, 2) := by decide +kernel
theorem dX5_isWord_100 : decode cX5_isWord 100 = .ok (.iload 8, 2) := by decide +kernel
theorem dX5_isWord_102 : decode cX5_isWord 102 = .ok (.invokevirtual 178, 3) := by decide +kernel
theorem dX5_isWord_105 : decode cX5_isWord 105 = .ok (.ifCond .eq 7, 3) := by decide +kernel
theorem dX5_isWord_108 : decode cX5_isWord 108 = .ok (.iconst 1, 1) := by decide +kernel
theorem dX5_isWord_109 : decode cX5_isWord 109 = .ok (.goto 4, 3) := by decide +kernel
theorem dX5_isWord_112 : decode cX5_isWord 112 = .ok (.iconst 0, 1) := by decide +kernel
theorem dX5_isWord_113 : decode cX5_isWord 113 = .ok (.ireturn, 1) := by decide +kernel
abbrev cX5_isSign : ByteArray := prog_7_method_21_code
abbrev mX5_isSign : MethodName := { cls := "KinInTheHeapModel", name := "isSign", desc := "(I)Z" }
theorem mwX5_isSign : MWV mX5_isSign (.code mX5_isSign cX5_isSign 2 (some .boolean)) "KinInTheHeapModel" 1 := ⟨w1190, w1189, w69, w103, w103, by decide +kernel⟩
theorem dX5_isSign_0 : decode cX5_isSign 0 = .ok (.aload_n 0, 1) := by decide +kernel
theorem dX5_isSign_1 : decode cX5_isSign 1 = .ok (.getfield 171, 3) := by decide +kernel
theorem dX5_isSign_4 : decode cX5_isSign 4 = .ok (.ifCond .ne 25, 3) := by decide +kernel
theorem dX5_isSign_7 : decode cX5_isSign 7 = .ok (.aload_n 0, 1) := by decide +kernel
theorem dX5_isSign_8 : decode cX5_isSign 8 = .ok (.getfield 156, 3) := by decide +kernel
theorem dX5_isSign_11 : decode cX5_isSign 11 = .ok (.iconst 3, 1) := by decide +kernel
theorem dX5_isSign_12 : decode cX5_isSign 12 = .ok (.if_icmp .ne 17, 3) := by decide +kernel
theorem dX5_isSign_15 : decode cX5_isSign 15 = .ok (.aload_n 0, 1) := by decide +kernel
theorem dX5_isSign_16 : decode cX5_isSign 16 = .ok (.getfield 167, 3) := by decide +kernel
theorem dX5_isSign_19 : decode cX5_isSign 19 = .ok (.iload_n 1, 1) := by decide +kernel
theorem dX5_isSign_20 : decode cX5_isSign 20 = .ok (.i2l, 1) := by decide +kernel
theorem dX5_isSign_21 : decode cX5_isSign 21 = .ok (.lcmp, 1) := by decide +kernel
theorem dX5_isSign_22 : decode cX5_isSign 22 = .ok (.ifCond .ne 7, 3) := by decide +kernel
theorem dX5_isSign_25 : decode cX5_isSign 25 = .ok (.iconst 1, 1) := by decide +kernel
theorem dX5_isSign_26 : decode cX5_isSign 26 = .ok (.goto 4, 3) := by decide +kernel
theorem dX5_isSign_29 : decode cX5_isSign 29 = .ok (.iconst 0, 1) := by decide +kernel
theorem dX5_isSign_30 : decode cX5_isSign 30 = .ok (.ireturn, 1) := by decide +kernel
abbrev cX5_opens : ByteArray := prog_7_method_22_code
abbrev mX5_opens : MethodName := { cls := "KinInTheHeapModel", name := "opens", desc := "()Z" }
theorem mwX5_opens : MWV mX5_opens (.code mX5_opens cX5_opens 1 (some .boolean)) "KinInTheHeapModel" 0 := ⟨w1174, w1173, w65, w103, w103, by decide +kernel⟩
theorem dX5_opens_0 : decode cX5_opens 0 = .ok (.aload_n 0, 1) := by decide +kernel
theorem dX5_opens_1 : decode cX5_opens 1 = .ok (.getfield 181, 3) := by decide +kernel
theorem dX5_opens_4 : decode cX5_opens 4 = .ok (.iconst 5, 1) := by decide +kernel
theorem dX5_opens_5 : decode cX5_opens 5 = .ok (.if_icmp .ne 9, 3) := by decide +kernel
theorem dX5_opens_8 : decode cX5_opens 8 = .ok (.aload_n 0, 1) := by decide +kernel
theorem dX5_opens_9 : decode cX5_opens 9 = .ok (.invokevirtual 184, 3) := by decide +kernel
theorem dX5_opens_12 : decode cX5_opens 12 = .ok (.iconst 0, 1) := by decide +kernel
theorem dX5_opens_13 : decode cX5_opens 13 = .ok (.ireturn, 1) := by decide +kernel
theorem dX5_opens_14 : decode cX5_opens 14 = .ok (.aload_n 0, 1) := by decide +kernel
theorem dX5_opens_15 : decode cX5_opens 15 = .ok (.dup, 1) := by decide +kernel
theorem dX5_opens_16 : decode cX5_opens 16 = .ok (.getfield 181, 3) := by decide +kernel
theorem dX5_opens_19 : decode cX5_opens 19 = .ok (.iconst 1, 1) := by decide +kernel
theorem dX5_opens_20 : decode cX5_opens 20 = .ok (.iadd, 1) := by decide +kernel
theorem dX5_opens_21 : decode cX5_opens 21 = .ok (.putfield 181, 3) := by decide +kernel
theorem dX5_opens_24 : decode cX5_opens 24 = .ok (.aload_n 0, 1) := by decide +kernel
theorem dX5_opens_25 : decode cX5_opens 25 = .ok (.invokevirtual 187, 3) := by decide +kernel
theorem dX5_opens_28 : decode cX5_opens 28 = .ok (.iconst 1, 1) := by decide +kernel
theorem dX5_opens_29 : decode cX5_opens 29 = .ok (.ireturn, 1) := by decide +kernel
abbrev cX5_name : ByteArray := prog_7_method_23_code
abbrev mX5_name : MethodName := { cls := "KinInTheHeapModel", name := "name", desc := "()I" }
theorem mwX5_name : MWV mX5_name (.code mX5_name cX5_name 1 (some .int)) "KinInTheHeapModel" 0 := ⟨w1194, w1193, w70, w103, w103, by decide +kernel⟩
theorem dX5_name_0 : decode cX5_name 0 = .ok (.aload_n 0, 1) := by decide +kernel
theorem dX5_name_1 : decode cX5_name 1 = .ok (.bipush 102, 2) := by decide +kernel
theorem dX5_name_3 : decode cX5_name 3 = .ok (.bipush 111, 2) := by decide +kernel
theorem dX5_name_5 : decode cX5_name 5 = .ok (.bipush 114, 2) := by decide +kernel
theorem dX5_name_7 : decode cX5_name 7 = .ok (.bipush 99, 2) := by decide +kernel
theorem dX5_name_9 : decode cX5_name 9 = .ok (.bipush 101, 2) := by decide +kernel
theorem dX5_name_11 : decode cX5_name 11 = .ok (.iconst 0, 1) := by decide +kernel
theorem dX5_name_12 : decode cX5_name 12 = .ok (.iconst 0, 1) := by decide +kernel
theorem dX5_name_13 : decode cX5_name 13 = .ok (.iconst 0, 1) := by decide +kernel
theorem dX5_name_14 : decode cX5_name 14 = .ok (.invokevirtual 190, 3) := by decide +kernel
theorem dX5_name_17 : decode cX5_name 17 = .ok (.ifCond .eq 8, 3) := by decide +kernel
theorem dX5_name_20 : decode cX5_name 20 = .ok (.aload_n 0, 1) := by decide +kernel
theorem dX5_name_21 : decode cX5_name 21 = .ok (.getfield 194, 3) := by decide +kernel
theorem dX5_name_24 : decode cX5_name 24 = .ok (.ireturn, 1) := by decide +kernel
theorem dX5_name_25 : decode cX5_name 25 = .ok (.aload_n 0, 1) := by decide +kernel
theorem dX5_name_26 : decode cX5_name 26 = .ok (.bipush 110, 2) := by decide +kernel
theorem dX5_name_28 : decode cX5_name 28 = .ok (.bipush 117, 2) := by decide +kernel
theorem dX5_name_30 : decode cX5_name 30 = .ok (.bipush 109, 2) := by decide +kernel
theorem dX5_name_32 : decode cX5_name 32 = .ok (.bipush 98, 2) := by decide +kernel
theorem dX5_name_34 : decode cX5_name 34 = .ok (.bipush 101, 2) := by decide +kernel
theorem dX5_name_36 : decode cX5_name 36 = .ok (.bipush 114, 2) := by decide +kernel
theorem dX5_name_38 : decode cX5_name 38 = .ok (.iconst 0, 1) := by decide +kernel
theorem dX5_name_39 : decode cX5_name 39 = .ok (.iconst 0, 1) := by decide +kernel
theorem dX5_name_40 : decode cX5_name 40 = .ok (.invokevirtual 190, 3) := by decide +kernel
theorem dX5_name_43 : decode cX5_name 43 = .ok (.ifCond .eq 8, 3) := by decide +kernel
theorem dX5_name_46 : decode cX5_name 46 = .ok (.aload_n 0, 1) := by decide +kernel
theorem dX5_name_47 : decode cX5_name 47 = .ok (.getfield 197, 3) := by decide +kernel
theorem dX5_name_50 : decode cX5_name 50 = .ok (.ireturn, 1) := by decide +kernel
theorem dX5_name_51 : decode cX5_name 51 = .ok (.aload_n 0, 1) := by decide +kernel
theorem dX5_name_52 : decode cX5_name 52 = .ok (.bipush 114, 2) := by decide +kernel
theorem dX5_name_54 : decode cX5_name 54 = .ok (.bipush 111, 2) := by decide +kernel
theorem dX5_name_56 : decode cX5_name 56 = .ok (.bipush 119, 2) := by decide +kernel
theorem dX5_name_58 : decode cX5_name 58 = .ok (.iconst 0, 1) := by decide +kernel
theorem dX5_name_59 : decode cX5_name 59 = .ok (.iconst 0, 1) := by decide +kernel
theorem dX5_name_60 : decode cX5_name 60 = .ok (.iconst 0, 1) := by decide +kernel
theorem dX5_name_61 : decode cX5_name 61 = .ok (.iconst 0, 1) := by decide +kernel
theorem dX5_name_62 : decode cX5_name 62 = .ok (.iconst 0, 1) := by decide +kernel
theorem dX5_name_63 : decode cX5_name 63 = .ok (.invokevirtual 190, 3) := by decide +kernel
theorem dX5_name_66 : decode cX5_name 66 = .ok (.ifCond .eq 8, 3) := by decide +kernel
theorem dX5_name_69 : decode cX5_name 69 = .ok (.aload_n 0, 1) := by decide +kernel
theorem dX5_name_70 : decode cX5_name 70 = .ok (.getfield 200, 3) := by decide +kernel
theorem dX5_name_73 : decode cX5_name 73 = .ok (.ireturn, 1) := by decide +kernel
theorem dX5_name_74 : decode cX5_name 74 = .ok (.aload_n 0, 1) := by decide +kernel
theorem dX5_name_75 : decode cX5_name 75 = .ok (.bipush 99, 2) := by decide +kernel
theorem dX5_name_77 : decode cX5_name 77 = .ok (.bipush 111, 2) := by decide +kernel
theorem dX5_name_79 : decode cX5_name 79 = .ok (.bipush 108, 2) := by decide +kernel
theorem dX5_name_81 : decode cX5_name 81 = .ok (.bipush 117, 2) := by decide +kernel
theorem dX5_name_83 : decode cX5_name 83 = .ok (.bipush 109, 2) := by decide +kernel
theorem dX5_name_85 : decode cX5_name 85 = .ok (.bipush 110, 2) := by decide +kernel
theorem dX5_name_87 : decode cX5_name 87 = .ok (.iconst 0, 1) := by decide +kernel
theorem dX5_name_88 : decode cX5_name 88 = .ok (.iconst 0, 1) := by decide +kernel
theorem dX5_name_89 : decode cX5_name 89 = .ok (.invokevirtual 190, 3) := by decide +kernel
theorem dX5_name_92 : decode cX5_name 92 = .ok (.ifCond .eq 8, 3) := by decide +kernel
theorem dX5_name_95 : decode cX5_name 95 = .ok (.aload_n 0, 1) := by decide +kernel
theorem dX5_name_96 : decode cX5_name 96 = .ok (.getfield 203, 3) := by decide +kernel
theorem dX5_name_99 : decode cX5_name 99 = .ok (.ireturn, 1) := by decide +kernel
theorem dX5_name_100 : decode cX5_name 100 = .ok (.aload_n 0, 1) := by decide +kernel
theorem dX5_name_101 : decode cX5_name 101 = .ok (.bipush 107, 2) := by decide +kernel
theorem dX5_name_103 : decode cX5_name 103 = .ok (.bipush 105, 2) := by decide +kernel
theorem dX5_name_105 : decode cX5_name 105 = .ok (.bipush 110, 2) := by decide +kernel
theorem dX5_name_107 : decode cX5_name 107 = .ok (.iconst 0, 1) := by decide +kernel
theorem dX5_name_108 : decode cX5_name 108 = .ok (.iconst 0, 1) := by decide +kernel
theorem dX5_name_109 : decode cX5_name 109 = .ok (.iconst 0, 1) := by decide +kernel
theorem dX5_name_110 : decode cX5_name 110 = .ok (.iconst 0, 1) := by decide +kernel
theorem dX5_name_111 : decode cX5_name 111 = .ok (.iconst 0, 1) := by decide +kernel
theorem dX5_name_112 : decode cX5_name 112 = .ok (.invokevirtual 190, 3) := by decide +kernel
theorem dX5_name_115 : decode cX5_name 115 = .ok (.ifCond .eq 8, 3) := by decide +kernel
theorem dX5_name_118 : decode cX5_name 118 = .ok (.aload_n 0, 1) := by decide +kernel
theorem dX5_name_119 : decode cX5_name 119 = .ok (.getfield 206, 3) := by decide +kernel
theorem dX5_name_122 : decode cX5_name 122 = .ok (.ireturn, 1) := by decide +kernel
theorem dX5_name_123 : decode cX5_name 123 = .ok (.aload_n 0, 1) := by decide +kernel
theorem dX5_name_124 : decode cX5_name 124 = .ok (.bipush 119, 2) := by decide +kernel
theorem dX5_name_126 : decode cX5_name 126 = .ok (.bipush 101, 2) := by decide +kernel
theorem dX5_name_128 : decode cX5_name 128 = .ok (.bipush 101, 2) := by decide +kernel
theorem dX5_name_130 : decode cX5_name 130 = .ok (.bipush 107, 2) := by decide +kernel
theorem dX5_name_132 : decode cX5_name 132 = .ok (.iconst 0, 1) := by decide +kernel
theorem dX5_name_133 : decode cX5_name 133 = .ok (.iconst 0, 1) := by decide +kernel
theorem dX5_name_134 : decode cX5_name 134 = .ok (.iconst 0, 1) := by decide +kernel
theorem dX5_name_135 : decode cX5_name 135 = .ok (.iconst 0, 1) := by decide +kernel
theorem dX5_name_136 : decode cX5_name 136 = .ok (.invokevirtual 190, 3) := by decide +kernel
theorem dX5_name_139 : decode cX5_name 139 = .ok (.ifCond .eq 8, 3) := by decide +kernel
theorem dX5_name_142 : decode cX5_name 142 = .ok (.aload_n 0, 1) := by decide +kernel
theorem dX5_name_143 : decode cX5_name 143 = .ok (.getfield 209, 3) := by decide +kernel
theorem dX5_name_146 : decode cX5_name 146 = .ok (.ireturn, 1) := by decide +kernel
theorem dX5_name_147 : decode cX5_name 147 = .ok (.aload_n 0, 1) := by decide +kernel
theorem dX5_name_148 : decode cX5_name 148 = .ok (.invokevirtual 184, 3) := by decide +kernel
theorem dX5_name_151 : decode cX5_name 151 = .ok (.iconst 0, 1) := by decide +kernel
theorem dX5_name_152 : decode cX5_name 152 = .ok (.ireturn, 1) := by decide +kernel
abbrev cX5_atom : ByteArray := prog_7_method_24_code
abbrev mX5_atom : MethodName := { cls := "KinInTheHeapModel", name := "atom", desc := "()I" }
theorem mwX5_atom : MWV mX5_atom (.code mX5_atom cX5_atom 2 (some .int)) "KinInTheHeapModel" 0 := ⟨w1186, w1185, w68, w103, w103, by decide +kernel⟩
theorem dX5_atom_0 : decode cX5_atom 0 = .ok (.iconst 0, 1) := by decide +kernel
theorem dX5_atom_1 : decode cX5_atom 1 = .ok (.istore_n 1, 1) := by decide +kernel
theorem dX5_atom_2 : decode cX5_atom 2 = .ok (.aload_n 0, 1) := by decide +kernel
theorem dX5_atom_3 : decode cX5_atom 3 = .ok (.bipush 45, 2) := by decide +kernel
theorem dX5_atom_5 : decode cX5_atom 5 = .ok (.invokevirtual 212, 3) := by decide +kernel
theorem dX5_atom_8 : decode cX5_atom 8 = .ok (.ifCond .eq 29, 3) := by decide +kernel
theorem dX5_atom_11 : decode cX5_atom 11 = .ok (.aload_n 0, 1) := by decide +kernel
theorem dX5_atom_12 : decode cX5_atom 12 = .ok (.invokevirtual 215, 3) := by decide +kernel
theorem dX5_atom_15 : decode cX5_atom 15 = .ok (.ifCond .eq 146, 3) := by decide +kernel
theorem dX5_atom_18 : decode cX5_atom 18 = .ok (.aload_n 0, 1) := by decide +kernel
theorem dX5_atom_19 : decode cX5_atom 19 = .ok (.invokevirtual 219, 3) := by decide +kernel
theorem dX5_atom_22 : decode cX5_atom 22 = .ok (.ineg, 1) := by decide +kernel
theorem dX5_atom_23 : decode cX5_atom 23 = .ok (.istore_n 1, 1) := by decide +kernel
theorem dX5_atom_24 : decode cX5_atom 24 = .ok (.aload_n 0, 1) := by decide +kernel
theorem dX5_atom_25 : decode cX5_atom 25 = .ok (.dup, 1) := by decide +kernel
theorem dX5_atom_26 : decode cX5_atom 26 = .ok (.getfield 181, 3) := by decide +kernel
theorem dX5_atom_29 : decode cX5_atom 29 = .ok (.iconst 1, 1) := by decide +kernel
theorem dX5_atom_30 : decode cX5_atom 30 = .ok (.isub, 1) := by decide +kernel
theorem dX5_atom_31 : decode cX5_atom 31 = .ok (.putfield 181, 3) := by decide +kernel
theorem dX5_atom_34 : decode cX5_atom 34 = .ok (.goto 127, 3) := by decide +kernel
theorem dX5_atom_37 : decode cX5_atom 37 = .ok (.aload_n 0, 1) := by decide +kernel
theorem dX5_atom_38 : decode cX5_atom 38 = .ok (.bipush 40, 2) := by decide +kernel
theorem dX5_atom_40 : decode cX5_atom 40 = .ok (.invokevirtual 212, 3) := by decide +kernel
theorem dX5_atom_43 : decode cX5_atom 43 = .ok (.ifCond .eq 52, 3) := by decide +kernel
theorem dX5_atom_46 : decode cX5_atom 46 = .ok (.aload_n 0, 1) := by decide +kernel
theorem dX5_atom_47 : decode cX5_atom 47 = .ok (.invokevirtual 215, 3) := by decide +kernel
theorem dX5_atom_50 : decode cX5_atom 50 = .ok (.ifCond .eq 111, 3) := by decide +kernel
theorem dX5_atom_53 : decode cX5_atom 53 = .ok (.aload_n 0, 1) := by decide +kernel
theorem dX5_atom_54 : decode cX5_atom 54 = .ok (.invokevirtual 223, 3) := by decide +kernel
theorem dX5_atom_57 : decode cX5_atom 57 = .ok (.istore_n 1, 1) := by decide +kernel
theorem dX5_atom_58 : decode cX5_atom 58 = .ok (.aload_n 0, 1) := by decide +kernel
theorem dX5_atom_59 : decode cX5_atom 59 = .ok (.bipush 41, 2) := by decide +kernel
theorem dX5_atom_61 : decode cX5_atom 61 = .ok (.invokevirtual 212, 3) := by decide +kernel
theorem dX5_atom_64 : decode cX5_atom 64 = .ok (.ifCond .ne 7, 3) := by decide +kernel
theorem dX5_atom_67 : decode cX5_atom 67 = .ok (.aload_n 0, 1) := by decide +kernel
theorem dX5_atom_68 : decode cX5_atom 68 = .ok (.invokevirtual 184, 3) := by decide +kernel
theorem dX5_atom_71 : decode cX5_atom 71 = .ok (.aload_n 0, 1) := by decide +kernel
theorem dX5_atom_72 : decode cX5_atom 72 = .ok (.dup, 1) := by decide +kernel
theorem dX5_atom_73 : decode cX5_atom 73 = .ok (.getfield 181, 3) := by decide +kernel
theorem dX5_atom_76 : decode cX5_atom 76 = .ok (.iconst 1, 1) := by decide +kernel
theorem dX5_atom_77 : decode cX5_atom 77 = .ok (.isub, 1) := by decide +kernel
theorem dX5_atom_78 : decode cX5_atom 78 = .ok (.putfield 181, 3) := by decide +kernel
theorem dX5_atom_81 : decode cX5_atom 81 = .ok (.aload_n 0, 1) := by decide +kernel
theorem dX5_atom_82 : decode cX5_atom 82 = .ok (.getfield 171, 3) := by decide +kernel
theorem dX5_atom_85 : decode cX5_atom 85 = .ok (.ifCond .ne 76, 3) := by decide +kernel
theorem dX5_atom_88 : decode cX5_atom 88 = .ok (.aload_n 0, 1) := by decide +kernel
theorem dX5_atom_89 : decode cX5_atom 89 = .ok (.invokevirtual 187, 3) := by decide +kernel
theorem dX5_atom_92 : decode cX5_atom 92 = .ok (.goto 69, 3) := by decide +kernel
theorem dX5_atom_95 : decode cX5_atom 95 = .ok (.aload_n 0, 1) := by decide +kernel
theorem dX5_atom_96 : decode cX5_atom 96 = .ok (.getfield 171, 3) := by decide +kernel
theorem dX5_atom_99 : decode cX5_atom 99 = .ok (.ifCond .ne 24, 3) := by decide +kernel
theorem dX5_atom_102 : decode cX5_atom 102 = .ok (.aload_n 0, 1) := by decide +kernel
theorem dX5_atom_103 : decode cX5_atom 103 = .ok (.getfield 156, 3) := by decide +kernel
theorem dX5_atom_106 : decode cX5_atom 106 = .ok (.iconst 2, 1) := by decide +kernel
theorem dX5_atom_107 : decode cX5_atom 107 = .ok (.if_icmp .ne 16, 3) := by decide +kernel
theorem dX5_atom_110 : decode cX5_atom 110 = .ok (.aload_n 0, 1) := by decide +kernel
theorem dX5_atom_111 : decode cX5_atom 111 = .ok (.getfield 167, 3) := by decide +kernel
theorem dX5_atom_114 : decode cX5_atom 114 = .ok (.l2i, 1) := by decide +kernel
theorem dX5_atom_115 : decode cX5_atom 115 = .ok (.istore_n 1, 1) := by decide +kernel
theorem dX5_atom_116 : decode cX5_atom 116 = .ok (.aload_n 0, 1) := by decide +kernel
theorem dX5_atom_117 : decode cX5_atom 117 = .ok (.invokevirtual 187, 3) := by decide +kernel
theorem dX5_atom_120 : decode cX5_atom 120 = .ok (.goto 41, 3) := by decide +kernel
theorem dX5_atom_123 : decode cX5_atom 123 = .ok (.aload_n 0, 1) := by decide +kernel
theorem dX5_atom_124 : decode cX5_atom 124 = .ok (.getfield 171, 3) := by decide +kernel
theorem dX5_atom_127 : decode cX5_atom 127 = .ok (.ifCond .ne 30, 3) := by decide +kernel
theorem dX5_atom_130 : decode cX5_atom 130 = .ok (.aload_n 0, 1) := by decide +kernel
theorem dX5_atom_131 : decode cX5_atom 131 = .ok (.getfield 156, 3) := by decide +kernel
theorem dX5_atom_134 : decode cX5_atom 134 = .ok (.iconst 1, 1) := by decide +kernel
theorem dX5_atom_135 : decode cX5_atom 135 = .ok (.if_icmp .ne 22, 3) := by decide +kernel
theorem dX5_atom_138 : decode cX5_atom 138 = .ok (.aload_n 0, 1) := by decide +kernel
theorem dX5_atom_139 : decode cX5_atom 139 = .ok (.invokevirtual 226, 3) := by decide +kernel
theorem dX5_atom_142 : decode cX5_atom 142 = .ok (.istore_n 1, 1) := by decide +kernel
theorem dX5_atom_143 : decode cX5_atom 143 = .ok (.aload_n 0, 1) := by decide +kernel
theorem dX5_atom_144 : decode cX5_atom 144 = .ok (.getfield 171, 3) := by decide +kernel
theorem dX5_atom_147 : decode cX5_atom 147 = .ok (.ifCond .ne 14, 3) := by decide +kernel
theorem dX5_atom_150 : decode cX5_atom 150 = .ok (.aload_n 0, 1) := by decide +kernel
theorem dX5_atom_151 : decode cX5_atom 151 = .ok (.invokevirtual 187, 3) := by decide +kernel
theorem dX5_atom_154 : decode cX5_atom 154 = .ok (.goto 7, 3) := by decide +kernel
theorem dX5_atom_157 : decode cX5_atom 157 = .ok (.aload_n 0, 1) := by decide +kernel
theorem dX5_atom_158 : decode cX5_atom 158 = .ok (.invokevirtual 184, 3) := by decide +kernel
theorem dX5_atom_161 : decode cX5_atom 161 = .ok (.iload_n 1, 1) := by decide +kernel
theorem dX5_atom_162 : decode cX5_atom 162 = .ok (.ireturn, 1) := by decide +kernel
abbrev cX5_term : ByteArray := prog_7_method_25_code
abbrev mX5_term : MethodName := { cls := "KinInTheHeapModel", name := "term", desc := "()I" }
theorem mwX5_term : MWV mX5_term (.code mX5_term cX5_term 2 (some .int)) "KinInTheHeapModel" 0 := ⟨w1182, w1181, w67, w103, w103, by decide +kernel⟩
theorem dX5_term_0 : decode cX5_term 0 = .ok (.aload_n 0, 1) := by decide +kernel
theorem dX5_term_1 : decode cX5_term 1 = .ok (.invokevirtual 219, 3) := by decide +kernel
theorem dX5_term_4 : decode cX5_term 4 = .ok (.istore_n 1, 1) := by decide +kernel
theorem dX5_term_5 : decode cX5_term 5 = .ok (.aload_n 0, 1) := by decide +kernel
theorem dX5_term_6 : decode cX5_term 6 = .ok (.bipush 42, 2) := by decide +kernel
theorem dX5_term_8 : decode cX5_term 8 = .ok (.invokevirtual 212, 3) := by decide +kernel
theorem dX5_term_11 : decode cX5_term 11 = .ok (.ifCond .eq 17, 3) := by decide +kernel
theorem dX5_term_14 : decode cX5_term 14 = .ok (.aload_n 0, 1) := by decide +kernel
theorem dX5_term_15 : decode cX5_term 15 = .ok (.invokevirtual 187, 3) := by decide +kernel
theorem dX5_term_18 : decode cX5_term 18 = .ok (.iload_n 1, 1) := by decide +kernel
theorem dX5_term_19 : decode cX5_term 19 = .ok (.aload_n 0, 1) := by decide +kernel
theorem dX5_term_20 : decode cX5_term 20 = .ok (.invokevirtual 219, 3) := by decide +kernel
theorem dX5_term_23 : decode cX5_term 23 = .ok (.imul, 1) := by decide +kernel
theorem dX5_term_24 : decode cX5_term 24 = .ok (.istore_n 1, 1) := by decide +kernel
theorem dX5_term_25 : decode cX5_term 25 = .ok (.goto (-20), 3) := by decide +kernel
theorem dX5_term_28 : decode cX5_term 28 = .ok (.iload_n 1, 1) := by decide +kernel
theorem dX5_term_29 : decode cX5_term 29 = .ok (.ireturn, 1) := by decide +kernel
abbrev cX5_added : ByteArray := prog_7_method_26_code
abbrev mX5_added : MethodName := { cls := "KinInTheHeapModel", name := "added", desc := "()I" }
theorem mwX5_added : MWV mX5_added (.code mX5_added cX5_added 4 (some .int)) "KinInTheHeapModel" 0 := ⟨w1178, w1177, w66, w103, w103, by decide +kernel⟩
theorem dX5_added_0 : decode cX5_added 0 = .ok (.aload_n 0, 1) := by decide +kernel
theorem dX5_added_1 : decode cX5_added 1 = .ok (.invokevirtual 229, 3) := by decide +kernel
theorem dX5_added_4 : decode cX5_added 4 = .ok (.istore_n 1, 1) := by decide +kernel
theorem dX5_added_5 : decode cX5_added 5 = .ok (.aload_n 0, 1) := by decide +kernel
theorem dX5_added_6 : decode cX5_added 6 = .ok (.bipush 43, 2) := by decide +kernel
theorem dX5_added_8 : decode cX5_added 8 = .ok (.invokevirtual 212, 3) := by decide +kernel
theorem dX5_added_11 : decode cX5_added 11 = .ok (.ifCond .ne 12, 3) := by decide +kernel
theorem dX5_added_14 : decode cX5_added 14 = .ok (.aload_n 0, 1) := by decide +kernel
theorem dX5_added_15 : decode cX5_added 15 = .ok (.bipush 45, 2) := by decide +kernel
theorem dX5_added_17 : decode cX5_added 17 = .ok (.invokevirtual 212, 3) := by decide +kernel
theorem dX5_added_20 : decode cX5_added 20 = .ok (.ifCond .eq 46, 3) := by decide +kernel
theorem dX5_added_23 : decode cX5_added 23 = .ok (.aload_n 0, 1) := by decide +kernel
theorem dX5_added_24 : decode cX5_added 24 = .ok (.getfield 167, 3) := by decide +kernel
theorem dX5_added_27 : decode cX5_added 27 = .ok (.ldc2_w 232, 3) := by decide +kernel
theorem dX5_added_30 : decode cX5_added 30 = .ok (.lcmp, 1) := by decide +kernel
theorem dX5_added_31 : decode cX5_added 31 = .ok (.ifCond .ne 7, 3) := by decide +kernel
theorem dX5_added_34 : decode cX5_added 34 = .ok (.iconst 1, 1) := by decide +kernel
theorem dX5_added_35 : decode cX5_added 35 = .ok (.goto 4, 3) := by decide +kernel
theorem dX5_added_38 : decode cX5_added 38 = .ok (.iconst 0, 1) := by decide +kernel
theorem dX5_added_39 : decode cX5_added 39 = .ok (.istore_n 2, 1) := by decide +kernel
theorem dX5_added_40 : decode cX5_added 40 = .ok (.aload_n 0, 1) := by decide +kernel
theorem dX5_added_41 : decode cX5_added 41 = .ok (.invokevirtual 187, 3) := by decide +kernel
theorem dX5_added_44 : decode cX5_added 44 = .ok (.aload_n 0, 1) := by decide +kernel
theorem dX5_added_45 : decode cX5_added 45 = .ok (.invokevirtual 229, 3) := by decide +kernel
theorem dX5_added_48 : decode cX5_added 48 = .ok (.istore_n 3, 1) := by decide +kernel
theorem dX5_added_49 : decode cX5_added 49 = .ok (.iload_n 2, 1) := by decide +kernel
theorem dX5_added_50 : decode cX5_added 50 = .ok (.ifCond .eq 9, 3) := by decide +kernel
theorem dX5_added_53 : decode cX5_added 53 = .ok (.iload_n 1, 1) := by decide +kernel
theorem dX5_added_54 : decode cX5_added 54 = .ok (.iload_n 3, 1) := by decide +kernel
theorem dX5_added_55 : decode cX5_added 55 = .ok (.iadd, 1) := by decide +kernel
theorem dX5_added_56 : decode cX5_added 56 = .ok (.goto 6, 3) := by decide +kernel
theorem dX5_added_59 : decode cX5_added 59 = .ok (.iload_n 1, 1) := by decide +kernel
theorem dX5_added_60 : decode cX5_added 60 = .ok (.iload_n 3, 1) := by decide +kernel
theorem dX5_added_61 : decode cX5_added 61 = .ok (.isub, 1) := by decide +kernel
theorem dX5_added_62 : decode cX5_added 62 = .ok (.istore_n 1, 1) := by decide +kernel
theorem dX5_added_63 : decode cX5_added 63 = .ok (.goto (-58), 3) := by decide +kernel
theorem dX5_added_66 : decode cX5_added 66 = .ok (.iload_n 1, 1) := by decide +kernel
theorem dX5_added_67 : decode cX5_added 67 = .ok (.ireturn, 1) := by decide +kernel
abbrev cX5_not : ByteArray := prog_7_method_27_code
abbrev mX5_not : MethodName := { cls := "KinInTheHeapModel", name := "not", desc := "()I" }
theorem mwX5_not : MWV mX5_not (.code mX5_not cX5_not 4 (some .int)) "KinInTheHeapModel" 0 := ⟨w1170, w1169, w64, w103, w103, by decide +kernel⟩
theorem dX5_not_0 : decode cX5_not 0 = .ok (.aload_n 0, 1) := by decide +kernel
theorem dX5_not_1 : decode cX5_not 1 = .ok (.bipush 110, 2) := by decide +kernel
theorem dX5_not_3 : decode cX5_not 3 = .ok (.bipush 111, 2) := by decide +kernel
theorem dX5_not_5 : decode cX5_not 5 = .ok (.bipush 116, 2) := by decide +kernel
theorem dX5_not_7 : decode cX5_not 7 = .ok (.iconst 0, 1) := by decide +kernel
theorem dX5_not_8 : decode cX5_not 8 = .ok (.iconst 0, 1) := by decide +kernel
theorem dX5_not_9 : decode cX5_not 9 = .ok (.iconst 0, 1) := by decide +kernel
theorem dX5_not_10 : decode cX5_not 10 = .ok (.iconst 0, 1) := by decide +kernel
theorem dX5_not_11 : decode cX5_not 11 = .ok (.iconst 0, 1) := by decide +kernel
theorem dX5_not_12 : decode cX5_not 12 = .ok (.invokevirtual 190, 3) := by decide +kernel
theorem dX5_not_15 : decode cX5_not 15 = .ok (.ifCond .eq 37, 3) := by decide +kernel
theorem dX5_not_18 : decode cX5_not 18 = .ok (.aload_n 0, 1) := by decide +kernel
theorem dX5_not_19 : decode cX5_not 19 = .ok (.invokevirtual 215, 3) := by decide +kernel
theorem dX5_not_22 : decode cX5_not 22 = .ok (.ifCond .ne 5, 3) := by decide +kernel
theorem dX5_not_25 : decode cX5_not 25 = .ok (.iconst 0, 1) := by decide +kernel
theorem dX5_not_26 : decode cX5_not 26 = .ok (.ireturn, 1) := by decide +kernel
theorem dX5_not_27 : decode cX5_not 27 = .ok (.aload_n 0, 1) := by decide +kernel
theorem dX5_not_28 : decode cX5_not 28 = .ok (.invokevirtual 234, 3) := by decide +kernel
theorem dX5_not_31 : decode cX5_not 31 = .ok (.istore_n 1, 1) := by decide +kernel
theorem dX5_not_32 : decode cX5_not 32 = .ok (.aload_n 0, 1) := by decide +kernel
theorem dX5_not_33 : decode cX5_not 33 = .ok (.dup, 1) := by decide +kernel
theorem dX5_not_34 : decode cX5_not 34 = .ok (.getfield 181, 3) := by decide +kernel
theorem dX5_not_37 : decode cX5_not 37 = .ok (.iconst 1, 1) := by decide +kernel
theorem dX5_not_38 : decode cX5_not 38 = .ok (.isub, 1) := by decide +kernel
theorem dX5_not_39 : decode cX5_not 39 = .ok (.putfield 181, 3) := by decide +kernel
theorem dX5_not_42 : decode cX5_not 42 = .ok (.iload_n 1, 1) := by decide +kernel
theorem dX5_not_43 : decode cX5_not 43 = .ok (.ifCond .ne 7, 3) := by decide +kernel
theorem dX5_not_46 : decode cX5_not 46 = .ok (.iconst 1, 1) := by decide +kernel
theorem dX5_not_47 : decode cX5_not 47 = .ok (.goto 4, 3) := by decide +kernel
theorem dX5_not_50 : decode cX5_not 50 = .ok (.iconst 0, 1) := by decide +kernel
theorem dX5_not_51 : decode cX5_not 51 = .ok (.ireturn, 1) := by decide +kernel
theorem dX5_not_52 : decode cX5_not 52 = .ok (.aload_n 0, 1) := by decide +kernel
theorem dX5_not_53 : decode cX5_not 53 = .ok (.invokevirtual 237, 3) := by decide +kernel
theorem dX5_not_56 : decode cX5_not 56 = .ok (.istore_n 1, 1) := by decide +kernel
theorem dX5_not_57 : decode cX5_not 57 = .ok (.aload_n 0, 1) := by decide +kernel
theorem dX5_not_58 : decode cX5_not 58 = .ok (.bipush 60, 2) := by decide +kernel
theorem dX5_not_60 : decode cX5_not 60 = .ok (.invokevirtual 212, 3) := by decide +kernel
theorem dX5_not_63 : decode cX5_not 63 = .ok (.ifCond .ne 14, 3) := by decide +kernel
theorem dX5_not_66 : decode cX5_not 66 = .ok (.aload_n 0, 1) := by decide +kernel
theorem dX5_not_67 : decode cX5_not 67 = .ok (.bipush 61, 2) := by decide +kernel
theorem dX5_not_69 : decode cX5_not 69 = .ok (.invokevirtual 212, 3) := by decide +kernel
theorem dX5_not_72 : decode cX5_not 72 = .ok (.ifCond .ne 5, 3) := by decide +kernel
theorem dX5_not_75 : decode cX5_not 75 = .ok (.iload_n 1, 1) := by decide +kernel
theorem dX5_not_76 : decode cX5_not 76 = .ok (.ireturn, 1) := by decide +kernel
theorem dX5_not_77 : decode cX5_not 77 = .ok (.aload_n 0, 1) := by decide +kernel
theorem dX5_not_78 : decode cX5_not 78 = .ok (.getfield 167, 3) := by decide +kernel
theorem dX5_not_81 : decode cX5_not 81 = .ok (.ldc2_w 240, 3) := by decide +kernel
theorem dX5_not_84 : decode cX5_not 84 = .ok (.lcmp, 1) := by decide +kernel
theorem dX5_not_85 : decode cX5_not 85 = .ok (.ifCond .ne 7, 3) := by decide +kernel
theorem dX5_not_88 : decode cX5_not 88 = .ok (.iconst 1, 1) := by decide +kernel
theorem dX5_not_89 : decode cX5_not 89 = .ok (.goto 4, 3) := by decide +kernel
theorem dX5_not_92 : decode cX5_not 92 = .ok (.iconst 0, 1) := by decide +kernel
theorem dX5_not_93 : decode cX5_not 93 = .ok (.istore_n 2, 1) := by decide +kernel
theorem dX5_not_94 : decode cX5_not 94 = .ok (.aload_n 0, 1) := by decide +kernel
theorem dX5_not_95 : decode cX5_not 95 = .ok (.invokevirtual 187, 3) := by decide +kernel
theorem dX5_not_98 : decode cX5_not 98 = .ok (.aload_n 0, 1) := by decide +kernel
theorem dX5_not_99 : decode cX5_not 99 = .ok (.invokevirtual 237, 3) := by decide +kernel
theorem dX5_not_102 : decode cX5_not 102 = .ok (.istore_n 3, 1) := by decide +kernel
theorem dX5_not_103 : decode cX5_not 103 = .ok (.iload_n 2, 1) := by decide +kernel
theorem dX5_not_104 : decode cX5_not 104 = .ok (.ifCond .eq 11, 3) := by decide +kernel
theorem dX5_not_107 : decode cX5_not 107 = .ok (.iload_n 1, 1) := by decide +kernel
theorem dX5_not_108 : decode cX5_not 108 = .ok (.iload_n 3, 1) := by decide +kernel
theorem dX5_not_109 : decode cX5_not 109 = .ok (.if_icmp .ge 15, 3) := by decide +kernel
theorem dX5_not_112 : decode cX5_not 112 = .ok (.goto 8, 3) := by decide +kernel
theorem dX5_not_115 : decode cX5_not 115 = .ok (.iload_n 1, 1) := by decide +kernel
theorem dX5_not_116 : decode cX5_not 116 = .ok (.iload_n 3, 1) := by decide +kernel
theorem dX5_not_117 : decode cX5_not 117 = .ok (.if_icmp .ne 7, 3) := by decide +kernel
theorem dX5_not_120 : decode cX5_not 120 = .ok (.iconst 1, 1) := by decide +kernel
theorem dX5_not_121 : decode cX5_not 121 = .ok (.goto 4, 3) := by decide +kernel
theorem dX5_not_124 : decode cX5_not 124 = .ok (.iconst 0, 1) := by decide +kernel
theorem dX5_not_125 : decode cX5_not 125 = .ok (.ireturn, 1) := by decide +kernel
