theorem dX5_isLetter_24 : decode cX5_isLetter 24 = .ok (.iload_n 0, 1) := by decide +kernel
theorem dX5_isLetter_25 : decode cX5_isLetter 25 = .ok (.bipush 99, 2) := by decide +kernel
theorem dX5_isLetter_27 : decode cX5_isLetter 27 = .ok (.if_icmp .eq 9, 3) := by decide +kernel
theorem dX5_isLetter_30 : decode cX5_isLetter 30 = .ok (.iload_n 0, 1) := by decide +kernel
theorem dX5_isLetter_31 : decode cX5_isLetter 31 = .ok (.bipush 104, 2) := by decide +kernel
theorem dX5_isLetter_33 : decode cX5_isLetter 33 = .ok (.if_icmp .ne 7, 3) := by decide +kernel
theorem dX5_isLetter_36 : decode cX5_isLetter 36 = .ok (.iconst 1, 1) := by decide +kernel
theorem dX5_isLetter_37 : decode cX5_isLetter 37 = .ok (.goto 4, 3) := by decide +kernel
theorem dX5_isLetter_40 : decode cX5_isLetter 40 = .ok (.iconst 0, 1) := by decide +kernel
theorem dX5_isLetter_41 : decode cX5_isLetter 41 = .ok (.ireturn, 1) := by decide +kernel
theorem dX5_readNumbers_0 : decode cX5_readNumbers 0 = .ok (.iload_n 1, 1) := by decide +kernel
theorem dX5_readNumbers_1 : decode cX5_readNumbers 1 = .ok (.lookupswitch 190 #[(99, 163), (116, 96), (119, 136), (121, 43)], 43) := by decide +kernel
theorem dX5_readNumbers_44 : decode cX5_readNumbers 44 = .ok (.aload_n 0, 1) := by decide +kernel
theorem dX5_readNumbers_45 : decode cX5_readNumbers 45 = .ok (.getfield 65, 3) := by decide +kernel
theorem dX5_readNumbers_48 : decode cX5_readNumbers 48 = .ok (.iload_n 2, 1) := by decide +kernel
theorem dX5_readNumbers_49 : decode cX5_readNumbers 49 = .ok (.aload_n 0, 1) := by decide +kernel
theorem dX5_readNumbers_50 : decode cX5_readNumbers 50 = .ok (.iconst 2, 1) := by decide +kernel
theorem dX5_readNumbers_51 : decode cX5_readNumbers 51 = .ok (.invokevirtual 160, 3) := by decide +kernel
theorem dX5_readNumbers_54 : decode cX5_readNumbers 54 = .ok (.iastore, 1) := by decide +kernel
theorem dX5_readNumbers_55 : decode cX5_readNumbers 55 = .ok (.aload_n 0, 1) := by decide +kernel
theorem dX5_readNumbers_56 : decode cX5_readNumbers 56 = .ok (.getfield 65, 3) := by decide +kernel
theorem dX5_readNumbers_59 : decode cX5_readNumbers 59 = .ok (.iload_n 2, 1) := by decide +kernel
theorem dX5_readNumbers_60 : decode cX5_readNumbers 60 = .ok (.iconst 1, 1) := by decide +kernel
theorem dX5_readNumbers_61 : decode cX5_readNumbers 61 = .ok (.iadd, 1) := by decide +kernel
theorem dX5_readNumbers_62 : decode cX5_readNumbers 62 = .ok (.aload_n 0, 1) := by decide +kernel
theorem dX5_readNumbers_63 : decode cX5_readNumbers 63 = .ok (.iconst 1, 1) := by decide +kernel
theorem dX5_readNumbers_64 : decode cX5_readNumbers 64 = .ok (.invokevirtual 160, 3) := by decide +kernel
theorem dX5_readNumbers_67 : decode cX5_readNumbers 67 = .ok (.iastore, 1) := by decide +kernel
theorem dX5_readNumbers_68 : decode cX5_readNumbers 68 = .ok (.aload_n 0, 1) := by decide +kernel
theorem dX5_readNumbers_69 : decode cX5_readNumbers 69 = .ok (.getfield 65, 3) := by decide +kernel
theorem dX5_readNumbers_72 : decode cX5_readNumbers 72 = .ok (.iload_n 2, 1) := by decide +kernel
theorem dX5_readNumbers_73 : decode cX5_readNumbers 73 = .ok (.iconst 2, 1) := by decide +kernel
theorem dX5_readNumbers_74 : decode cX5_readNumbers 74 = .ok (.iadd, 1) := by decide +kernel
theorem dX5_readNumbers_75 : decode cX5_readNumbers 75 = .ok (.aload_n 0, 1) := by decide +kernel
theorem dX5_readNumbers_76 : decode cX5_readNumbers 76 = .ok (.iconst 1, 1) := by decide +kernel
theorem dX5_readNumbers_77 : decode cX5_readNumbers 77 = .ok (.invokevirtual 160, 3) := by decide +kernel
theorem dX5_readNumbers_80 : decode cX5_readNumbers 80 = .ok (.iastore, 1) := by decide +kernel
theorem dX5_readNumbers_81 : decode cX5_readNumbers 81 = .ok (.aload_n 0, 1) := by decide +kernel
theorem dX5_readNumbers_82 : decode cX5_readNumbers 82 = .ok (.getfield 65, 3) := by decide +kernel
theorem dX5_readNumbers_85 : decode cX5_readNumbers 85 = .ok (.iload_n 2, 1) := by decide +kernel
theorem dX5_readNumbers_86 : decode cX5_readNumbers 86 = .ok (.iconst 3, 1) := by decide +kernel
theorem dX5_readNumbers_87 : decode cX5_readNumbers 87 = .ok (.iadd, 1) := by decide +kernel
theorem dX5_readNumbers_88 : decode cX5_readNumbers 88 = .ok (.aload_n 0, 1) := by decide +kernel
theorem dX5_readNumbers_89 : decode cX5_readNumbers 89 = .ok (.iconst 2, 1) := by decide +kernel
theorem dX5_readNumbers_90 : decode cX5_readNumbers 90 = .ok (.invokevirtual 160, 3) := by decide +kernel
theorem dX5_readNumbers_93 : decode cX5_readNumbers 93 = .ok (.iastore, 1) := by decide +kernel
theorem dX5_readNumbers_94 : decode cX5_readNumbers 94 = .ok (.goto 108, 3) := by decide +kernel
theorem dX5_readNumbers_97 : decode cX5_readNumbers 97 = .ok (.aload_n 0, 1) := by decide +kernel
theorem dX5_readNumbers_98 : decode cX5_readNumbers 98 = .ok (.getfield 65, 3) := by decide +kernel
theorem dX5_readNumbers_101 : decode cX5_readNumbers 101 = .ok (.iload_n 2, 1) := by decide +kernel
theorem dX5_readNumbers_102 : decode cX5_readNumbers 102 = .ok (.aload_n 0, 1) := by decide +kernel
theorem dX5_readNumbers_103 : decode cX5_readNumbers 103 = .ok (.iconst 2, 1) := by decide +kernel
theorem dX5_readNumbers_104 : decode cX5_readNumbers 104 = .ok (.invokevirtual 160, 3) := by decide +kernel
theorem dX5_readNumbers_107 : decode cX5_readNumbers 107 = .ok (.iastore, 1) := by decide +kernel
theorem dX5_readNumbers_108 : decode cX5_readNumbers 108 = .ok (.aload_n 0, 1) := by decide +kernel
theorem dX5_readNumbers_109 : decode cX5_readNumbers 109 = .ok (.getfield 65, 3) := by decide +kernel
theorem dX5_readNumbers_112 : decode cX5_readNumbers 112 = .ok (.iload_n 2, 1) := by decide +kernel
theorem dX5_readNumbers_113 : decode cX5_readNumbers 113 = .ok (.iconst 1, 1) := by decide +kernel
theorem dX5_readNumbers_114 : decode cX5_readNumbers 114 = .ok (.iadd, 1) := by decide +kernel
theorem dX5_readNumbers_115 : decode cX5_readNumbers 115 = .ok (.aload_n 0, 1) := by decide +kernel
theorem dX5_readNumbers_116 : decode cX5_readNumbers 116 = .ok (.iconst 1, 1) := by decide +kernel
theorem dX5_readNumbers_117 : decode cX5_readNumbers 117 = .ok (.invokevirtual 160, 3) := by decide +kernel
theorem dX5_readNumbers_120 : decode cX5_readNumbers 120 = .ok (.iastore, 1) := by decide +kernel
theorem dX5_readNumbers_121 : decode cX5_readNumbers 121 = .ok (.aload_n 0, 1) := by decide +kernel
theorem dX5_readNumbers_122 : decode cX5_readNumbers 122 = .ok (.getfield 65, 3) := by decide +kernel
theorem dX5_readNumbers_125 : decode cX5_readNumbers 125 = .ok (.iload_n 2, 1) := by decide +kernel
theorem dX5_readNumbers_126 : decode cX5_readNumbers 126 = .ok (.iconst 2, 1) := by decide +kernel
theorem dX5_readNumbers_127 : decode cX5_readNumbers 127 = .ok (.iadd, 1) := by decide +kernel
theorem dX5_readNumbers_128 : decode cX5_readNumbers 128 = .ok (.aload_n 0, 1) := by decide +kernel
theorem dX5_readNumbers_129 : decode cX5_readNumbers 129 = .ok (.iconst 1, 1) := by decide +kernel
theorem dX5_readNumbers_130 : decode cX5_readNumbers 130 = .ok (.invokevirtual 160, 3) := by decide +kernel
theorem dX5_readNumbers_133 : decode cX5_readNumbers 133 = .ok (.iastore, 1) := by decide +kernel
theorem dX5_readNumbers_134 : decode cX5_readNumbers 134 = .ok (.goto 68, 3) := by decide +kernel
theorem dX5_readNumbers_137 : decode cX5_readNumbers 137 = .ok (.aload_n 0, 1) := by decide +kernel
theorem dX5_readNumbers_138 : decode cX5_readNumbers 138 = .ok (.getfield 65, 3) := by decide +kernel
theorem dX5_readNumbers_141 : decode cX5_readNumbers 141 = .ok (.iload_n 2, 1) := by decide +kernel
theorem dX5_readNumbers_142 : decode cX5_readNumbers 142 = .ok (.aload_n 0, 1) := by decide +kernel
theorem dX5_readNumbers_143 : decode cX5_readNumbers 143 = .ok (.iconst 1, 1) := by decide +kernel
theorem dX5_readNumbers_144 : decode cX5_readNumbers 144 = .ok (.invokevirtual 160, 3) := by decide +kernel
theorem dX5_readNumbers_147 : decode cX5_readNumbers 147 = .ok (.iastore, 1) := by decide +kernel
theorem dX5_readNumbers_148 : decode cX5_readNumbers 148 = .ok (.aload_n 0, 1) := by decide +kernel
theorem dX5_readNumbers_149 : decode cX5_readNumbers 149 = .ok (.getfield 65, 3) := by decide +kernel
theorem dX5_readNumbers_152 : decode cX5_readNumbers 152 = .ok (.iload_n 2, 1) := by decide +kernel
theorem dX5_readNumbers_153 : decode cX5_readNumbers 153 = .ok (.iconst 1, 1) := by decide +kernel
theorem dX5_readNumbers_154 : decode cX5_readNumbers 154 = .ok (.iadd, 1) := by decide +kernel
theorem dX5_readNumbers_155 : decode cX5_readNumbers 155 = .ok (.aload_n 0, 1) := by decide +kernel
theorem dX5_readNumbers_156 : decode cX5_readNumbers 156 = .ok (.iconst 2, 1) := by decide +kernel
theorem dX5_readNumbers_157 : decode cX5_readNumbers 157 = .ok (.invokevirtual 160, 3) := by decide +kernel
theorem dX5_readNumbers_160 : decode cX5_readNumbers 160 = .ok (.iastore, 1) := by decide +kernel
theorem dX5_readNumbers_161 : decode cX5_readNumbers 161 = .ok (.goto 41, 3) := by decide +kernel
theorem dX5_readNumbers_164 : decode cX5_readNumbers 164 = .ok (.aload_n 0, 1) := by decide +kernel
theorem dX5_readNumbers_165 : decode cX5_readNumbers 165 = .ok (.getfield 65, 3) := by decide +kernel
theorem dX5_readNumbers_168 : decode cX5_readNumbers 168 = .ok (.iload_n 2, 1) := by decide +kernel
theorem dX5_readNumbers_169 : decode cX5_readNumbers 169 = .ok (.aload_n 0, 1) := by decide +kernel
theorem dX5_readNumbers_170 : decode cX5_readNumbers 170 = .ok (.iconst 1, 1) := by decide +kernel
theorem dX5_readNumbers_171 : decode cX5_readNumbers 171 = .ok (.invokevirtual 160, 3) := by decide +kernel
theorem dX5_readNumbers_174 : decode cX5_readNumbers 174 = .ok (.iastore, 1) := by decide +kernel
theorem dX5_readNumbers_175 : decode cX5_readNumbers 175 = .ok (.aload_n 0, 1) := by decide +kernel
theorem dX5_readNumbers_176 : decode cX5_readNumbers 176 = .ok (.getfield 65, 3) := by decide +kernel
theorem dX5_readNumbers_179 : decode cX5_readNumbers 179 = .ok (.iload_n 2, 1) := by decide +kernel
theorem dX5_readNumbers_180 : decode cX5_readNumbers 180 = .ok (.iconst 1, 1) := by decide +kernel
theorem dX5_readNumbers_181 : decode cX5_readNumbers 181 = .ok (.iadd, 1) := by decide +kernel
theorem dX5_readNumbers_182 : decode cX5_readNumbers 182 = .ok (.aload_n 0, 1) := by decide +kernel
theorem dX5_readNumbers_183 : decode cX5_readNumbers 183 = .ok (.iconst 1, 1) := by decide +kernel
theorem dX5_readNumbers_184 : decode cX5_readNumbers 184 = .ok (.invokevirtual 160, 3) := by decide +kernel
theorem dX5_readNumbers_187 : decode cX5_readNumbers 187 = .ok (.iastore, 1) := by decide +kernel
theorem dX5_readNumbers_188 : decode cX5_readNumbers 188 = .ok (.goto 14, 3) := by decide +kernel
theorem dX5_readNumbers_191 : decode cX5_readNumbers 191 = .ok (.aload_n 0, 1) := by decide +kernel
theorem dX5_readNumbers_192 : decode cX5_readNumbers 192 = .ok (.getfield 65, 3) := by decide +kernel
theorem dX5_readNumbers_195 : decode cX5_readNumbers 195 = .ok (.iload_n 2, 1) := by decide +kernel
theorem dX5_readNumbers_196 : decode cX5_readNumbers 196 = .ok (.aload_n 0, 1) := by decide +kernel
theorem dX5_readNumbers_197 : decode cX5_readNumbers 197 = .ok (.iconst 2, 1) := by decide +kernel
theorem dX5_readNumbers_198 : decode cX5_readNumbers 198 = .ok (.invokevirtual 160, 3) := by decide +kernel
theorem dX5_readNumbers_201 : decode cX5_readNumbers 201 = .ok (.iastore, 1) := by decide +kernel
theorem dX5_readNumbers_202 : decode cX5_readNumbers 202 = .ok (.return_, 1) := by decide +kernel
theorem dX5_readStatement_0 : decode cX5_readStatement 0 = .ok (.aload_n 0, 1) := by decide +kernel
theorem dX5_readStatement_1 : decode cX5_readStatement 1 = .ok (.getfield 163, 3) := by decide +kernel
theorem dX5_readStatement_4 : decode cX5_readStatement 4 = .ok (.istore_n 1, 1) := by decide +kernel
theorem dX5_readStatement_5 : decode cX5_readStatement 5 = .ok (.aload_n 0, 1) := by decide +kernel
theorem dX5_readStatement_6 : decode cX5_readStatement 6 = .ok (.invokevirtual 152, 3) := by decide +kernel
theorem dX5_readStatement_9 : decode cX5_readStatement 9 = .ok (.istore_n 2, 1) := by decide +kernel
theorem dX5_readStatement_10 : decode cX5_readStatement 10 = .ok (.aload_n 0, 1) := by decide +kernel
theorem dX5_readStatement_11 : decode cX5_readStatement 11 = .ok (.getfield 59, 3) := by decide +kernel
theorem dX5_readStatement_14 : decode cX5_readStatement 14 = .ok (.iload_n 1, 1) := by decide +kernel
theorem dX5_readStatement_15 : decode cX5_readStatement 15 = .ok (.aload_n 0, 1) := by decide +kernel
theorem dX5_readStatement_16 : decode cX5_readStatement 16 = .ok (.getfield 145, 3) := by decide +kernel
theorem dX5_readStatement_19 : decode cX5_readStatement 19 = .ok (.iastore, 1) := by decide +kernel
theorem dX5_readStatement_20 : decode cX5_readStatement 20 = .ok (.aload_n 0, 1) := by decide +kernel
theorem dX5_readStatement_21 : decode cX5_readStatement 21 = .ok (.getfield 62, 3) := by decide +kernel
theorem dX5_readStatement_24 : decode cX5_readStatement 24 = .ok (.iload_n 1, 1) := by decide +kernel
theorem dX5_readStatement_25 : decode cX5_readStatement 25 = .ok (.iload_n 2, 1) := by decide +kernel
theorem dX5_readStatement_26 : decode cX5_readStatement 26 = .ok (.iastore, 1) := by decide +kernel
theorem dX5_readStatement_27 : decode cX5_readStatement 27 = .ok (.aload_n 0, 1) := by decide +kernel
theorem dX5_readStatement_28 : decode cX5_readStatement 28 = .ok (.aload_n 0, 1) := by decide +kernel
theorem dX5_readStatement_29 : decode cX5_readStatement 29 = .ok (.getfield 148, 3) := by decide +kernel
theorem dX5_readStatement_32 : decode cX5_readStatement 32 = .ok (.ifCond .ne 10, 3) := by decide +kernel
theorem dX5_readStatement_35 : decode cX5_readStatement 35 = .ok (.iload_n 2, 1) := by decide +kernel
theorem dX5_readStatement_36 : decode cX5_readStatement 36 = .ok (.invokestatic 166, 3) := by decide +kernel
theorem dX5_readStatement_39 : decode cX5_readStatement 39 = .ok (.ifCond .ne 7, 3) := by decide +kernel
theorem dX5_readStatement_42 : decode cX5_readStatement 42 = .ok (.iconst 1, 1) := by decide +kernel
theorem dX5_readStatement_43 : decode cX5_readStatement 43 = .ok (.goto 4, 3) := by decide +kernel
theorem dX5_readStatement_46 : decode cX5_readStatement 46 = .ok (.iconst 0, 1) := by decide +kernel
theorem dX5_readStatement_47 : decode cX5_readStatement 47 = .ok (.putfield 148, 3) := by decide +kernel
theorem dX5_readStatement_50 : decode cX5_readStatement 50 = .ok (.aload_n 0, 1) := by decide +kernel
theorem dX5_readStatement_51 : decode cX5_readStatement 51 = .ok (.dup, 1) := by decide +kernel
theorem dX5_readStatement_52 : decode cX5_readStatement 52 = .ok (.getfield 145, 3) := by decide +kernel
theorem dX5_readStatement_55 : decode cX5_readStatement 55 = .ok (.aload_n 0, 1) := by decide +kernel
theorem dX5_readStatement_56 : decode cX5_readStatement 56 = .ok (.getfield 148, 3) := by decide +kernel
theorem dX5_readStatement_59 : decode cX5_readStatement 59 = .ok (.ifCond .eq 7, 3) := by decide +kernel
theorem dX5_readStatement_62 : decode cX5_readStatement 62 = .ok (.iconst 0, 1) := by decide +kernel
theorem dX5_readStatement_63 : decode cX5_readStatement 63 = .ok (.goto 4, 3) := by decide +kernel
theorem dX5_readStatement_66 : decode cX5_readStatement 66 = .ok (.iconst 1, 1) := by decide +kernel
theorem dX5_readStatement_67 : decode cX5_readStatement 67 = .ok (.iadd, 1) := by decide +kernel
theorem dX5_readStatement_68 : decode cX5_readStatement 68 = .ok (.putfield 145, 3) := by decide +kernel
theorem dX5_readStatement_71 : decode cX5_readStatement 71 = .ok (.aload_n 0, 1) := by decide +kernel
theorem dX5_readStatement_72 : decode cX5_readStatement 72 = .ok (.getfield 148, 3) := by decide +kernel
theorem dX5_readStatement_75 : decode cX5_readStatement 75 = .ok (.ifCond .ne 11, 3) := by decide +kernel
theorem dX5_readStatement_78 : decode cX5_readStatement 78 = .ok (.aload_n 0, 1) := by decide +kernel
theorem dX5_readStatement_79 : decode cX5_readStatement 79 = .ok (.iload_n 2, 1) := by decide +kernel
theorem dX5_readStatement_80 : decode cX5_readStatement 80 = .ok (.iconst 4, 1) := by decide +kernel
theorem dX5_readStatement_81 : decode cX5_readStatement 81 = .ok (.iload_n 1, 1) := by decide +kernel
theorem dX5_readStatement_82 : decode cX5_readStatement 82 = .ok (.imul, 1) := by decide +kernel
theorem dX5_readStatement_83 : decode cX5_readStatement 83 = .ok (.invokevirtual 170, 3) := by decide +kernel
theorem dX5_readStatement_86 : decode cX5_readStatement 86 = .ok (.aload_n 0, 1) := by decide +kernel
theorem dX5_readStatement_87 : decode cX5_readStatement 87 = .ok (.aload_n 0, 1) := by decide +kernel
theorem dX5_readStatement_88 : decode cX5_readStatement 88 = .ok (.getfield 148, 3) := by decide +kernel
theorem dX5_readStatement_91 : decode cX5_readStatement 91 = .ok (.ifCond .ne 12, 3) := by decide +kernel
theorem dX5_readStatement_94 : decode cX5_readStatement 94 = .ok (.aload_n 0, 1) := by decide +kernel
theorem dX5_readStatement_95 : decode cX5_readStatement 95 = .ok (.invokevirtual 152, 3) := by decide +kernel
theorem dX5_readStatement_98 : decode cX5_readStatement 98 = .ok (.bipush 59, 2) := by decide +kernel
theorem dX5_readStatement_100 : decode cX5_readStatement 100 = .ok (.if_icmp .eq 7, 3) := by decide +kernel
theorem dX5_readStatement_103 : decode cX5_readStatement 103 = .ok (.iconst 1, 1) := by decide +kernel
theorem dX5_readStatement_104 : decode cX5_readStatement 104 = .ok (.goto 4, 3) := by decide +kernel
theorem dX5_readStatement_107 : decode cX5_readStatement 107 = .ok (.iconst 0, 1) := by decide +kernel
theorem dX5_readStatement_108 : decode cX5_readStatement 108 = .ok (.putfield 148, 3) := by decide +kernel
theorem dX5_readStatement_111 : decode cX5_readStatement 111 = .ok (.aload_n 0, 1) := by decide +kernel
theorem dX5_readStatement_112 : decode cX5_readStatement 112 = .ok (.dup, 1) := by decide +kernel
theorem dX5_readStatement_113 : decode cX5_readStatement 113 = .ok (.getfield 145, 3) := by decide +kernel
theorem dX5_readStatement_116 : decode cX5_readStatement 116 = .ok (.aload_n 0, 1) := by decide +kernel
theorem dX5_readStatement_117 : decode cX5_readStatement 117 = .ok (.getfield 148, 3) := by decide +kernel
theorem dX5_readStatement_120 : decode cX5_readStatement 120 = .ok (.ifCond .eq 7, 3) := by decide +kernel
theorem dX5_readStatement_123 : decode cX5_readStatement 123 = .ok (.iconst 0, 1) := by decide +kernel
theorem dX5_readStatement_124 : decode cX5_readStatement 124 = .ok (.goto 4, 3) := by decide +kernel
theorem dX5_readStatement_127 : decode cX5_readStatement 127 = .ok (.iconst 1, 1) := by decide +kernel
theorem dX5_readStatement_128 : decode cX5_readStatement 128 = .ok (.iadd, 1) := by decide +kernel
theorem dX5_readStatement_129 : decode cX5_readStatement 129 = .ok (.putfield 145, 3) := by decide +kernel
theorem dX5_readStatement_132 : decode cX5_readStatement 132 = .ok (.aload_n 0, 1) := by decide +kernel
theorem dX5_readStatement_133 : decode cX5_readStatement 133 = .ok (.dup, 1) := by decide +kernel
theorem dX5_readStatement_134 : decode cX5_readStatement 134 = .ok (.getfield 163, 3) := by decide +kernel
theorem dX5_readStatement_137 : decode cX5_readStatement 137 = .ok (.iconst 1, 1) := by decide +kernel
theorem dX5_readStatement_138 : decode cX5_readStatement 138 = .ok (.iadd, 1) := by decide +kernel
theorem dX5_readStatement_139 : decode cX5_readStatement 139 = .ok (.putfield 163, 3) := by decide +kernel
theorem dX5_readStatement_142 : decode cX5_readStatement 142 = .ok (.return_, 1) := by decide +kernel
theorem dX5_trainComes_0 : decode cX5_trainComes 0 = .ok (.aload_n 0, 1) := by decide +kernel
theorem dX5_trainComes_1 : decode cX5_trainComes 1 = .ok (.getfield 29, 3) := by decide +kernel
theorem dX5_trainComes_4 : decode cX5_trainComes 4 = .ok (.aload_n 0, 1) := by decide +kernel
theorem dX5_trainComes_5 : decode cX5_trainComes 5 = .ok (.getfield 99, 3) := by decide +kernel
theorem dX5_trainComes_8 : decode cX5_trainComes 8 = .ok (.iload_n 1, 1) := by decide +kernel
theorem dX5_trainComes_9 : decode cX5_trainComes 9 = .ok (.iastore, 1) := by decide +kernel
theorem dX5_trainComes_10 : decode cX5_trainComes 10 = .ok (.aload_n 0, 1) := by decide +kernel
theorem dX5_trainComes_11 : decode cX5_trainComes 11 = .ok (.getfield 32, 3) := by decide +kernel
theorem dX5_trainComes_14 : decode cX5_trainComes 14 = .ok (.aload_n 0, 1) := by decide +kernel
theorem dX5_trainComes_15 : decode cX5_trainComes 15 = .ok (.getfield 99, 3) := by decide +kernel
theorem dX5_trainComes_18 : decode cX5_trainComes 18 = .ok (.iload_n 2, 1) := by decide +kernel
theorem dX5_trainComes_19 : decode cX5_trainComes 19 = .ok (.iastore, 1) := by decide +kernel
theorem dX5_trainComes_20 : decode cX5_trainComes 20 = .ok (.aload_n 0, 1) := by decide +kernel
theorem dX5_trainComes_21 : decode cX5_trainComes 21 = .ok (.getfield 35, 3) := by decide +kernel
theorem dX5_trainComes_24 : decode cX5_trainComes 24 = .ok (.aload_n 0, 1) := by decide +kernel
theorem dX5_trainComes_25 : decode cX5_trainComes 25 = .ok (.getfield 99, 3) := by decide +kernel
theorem dX5_trainComes_28 : decode cX5_trainComes 28 = .ok (.iload_n 3, 1) := by decide +kernel
theorem dX5_trainComes_29 : decode cX5_trainComes 29 = .ok (.iastore, 1) := by decide +kernel
theorem dX5_trainComes_30 : decode cX5_trainComes 30 = .ok (.aload_n 0, 1) := by decide +kernel
theorem dX5_trainComes_31 : decode cX5_trainComes 31 = .ok (.getfield 38, 3) := by decide +kernel
theorem dX5_trainComes_34 : decode cX5_trainComes 34 = .ok (.aload_n 0, 1) := by decide +kernel
theorem dX5_trainComes_35 : decode cX5_trainComes 35 = .ok (.getfield 99, 3) := by decide +kernel
theorem dX5_trainComes_38 : decode cX5_trainComes 38 = .ok (.iconst (-1), 1) := by decide +kernel
theorem dX5_trainComes_39 : decode cX5_trainComes 39 = .ok (.iastore, 1) := by decide +kernel
theorem dX5_trainComes_40 : decode cX5_trainComes 40 = .ok (.aload_n 0, 1) := by decide +kernel
theorem dX5_trainComes_41 : decode cX5_trainComes 41 = .ok (.getfield 41, 3) := by decide +kernel
theorem dX5_trainComes_44 : decode cX5_trainComes 44 = .ok (.aload_n 0, 1) := by decide +kernel
theorem dX5_trainComes_45 : decode cX5_trainComes 45 = .ok (.getfield 99, 3) := by decide +kernel
theorem dX5_trainComes_48 : decode cX5_trainComes 48 = .ok (.iconst 0, 1) := by decide +kernel
theorem dX5_trainComes_49 : decode cX5_trainComes 49 = .ok (.iastore, 1) := by decide +kernel
theorem dX5_trainComes_50 : decode cX5_trainComes 50 = .ok (.aload_n 0, 1) := by decide +kernel
theorem dX5_trainComes_51 : decode cX5_trainComes 51 = .ok (.getfield 44, 3) := by decide +kernel
theorem dX5_trainComes_54 : decode cX5_trainComes 54 = .ok (.aload_n 0, 1) := by decide +kernel
theorem dX5_trainComes_55 : decode cX5_trainComes 55 = .ok (.getfield 99, 3) := by decide +kernel
theorem dX5_trainComes_58 : decode cX5_trainComes 58 = .ok (.iconst 0, 1) := by decide +kernel
theorem dX5_trainComes_59 : decode cX5_trainComes 59 = .ok (.iastore, 1) := by decide +kernel
theorem dX5_trainComes_60 : decode cX5_trainComes 60 = .ok (.aload_n 0, 1) := by decide +kernel
theorem dX5_trainComes_61 : decode cX5_trainComes 61 = .ok (.dup, 1) := by decide +kernel
theorem dX5_trainComes_62 : decode cX5_trainComes 62 = .ok (.getfield 99, 3) := by decide +kernel
theorem dX5_trainComes_65 : decode cX5_trainComes 65 = .ok (.iconst 1, 1) := by decide +kernel
theorem dX5_trainComes_66 : decode cX5_trainComes 66 = .ok (.iadd, 1) := by decide +kernel
theorem dX5_trainComes_67 : decode cX5_trainComes 67 = .ok (.putfield 99, 3) := by decide +kernel
theorem dX5_trainComes_70 : decode cX5_trainComes 70 = .ok (.return_, 1) := by decide +kernel
theorem dX5_isBeyond_0 : decode cX5_isBeyond 0 = .ok (.iconst 0, 1) := by decide +kernel
theorem dX5_isBeyond_1 : decode cX5_isBeyond 1 = .ok (.istore_n 2, 1) := by decide +kernel
theorem dX5_isBeyond_2 : decode cX5_isBeyond 2 = .ok (.iconst 0, 1) := by decide +kernel
theorem dX5_isBeyond_3 : decode cX5_isBeyond 3 = .ok (.istore_n 3, 1) := by decide +kernel
theorem dX5_isBeyond_4 : decode cX5_isBeyond 4 = .ok (.iload_n 3, 1) := by decide +kernel
theorem dX5_isBeyond_5 : decode cX5_isBeyond 5 = .ok (.aload_n 0, 1) := by decide +kernel
theorem dX5_isBeyond_6 : decode cX5_isBeyond 6 = .ok (.getfield 99, 3) := by decide +kernel
theorem dX5_isBeyond_9 : decode cX5_isBeyond 9 = .ok (.if_icmp .ge 38, 3) := by decide +kernel
theorem dX5_isBeyond_12 : decode cX5_isBeyond 12 = .ok (.iload_n 2, 1) := by decide +kernel
theorem dX5_isBeyond_13 : decode cX5_isBeyond 13 = .ok (.ifCond .ne 22, 3) := by decide +kernel
theorem dX5_isBeyond_16 : decode cX5_isBeyond 16 = .ok (.aload_n 0, 1) := by decide +kernel
theorem dX5_isBeyond_17 : decode cX5_isBeyond 17 = .ok (.getfield 44, 3) := by decide +kernel
theorem dX5_isBeyond_20 : decode cX5_isBeyond 20 = .ok (.iload_n 3, 1) := by decide +kernel
theorem dX5_isBeyond_21 : decode cX5_isBeyond 21 = .ok (.iaload, 1) := by decide +kernel
theorem dX5_isBeyond_22 : decode cX5_isBeyond 22 = .ok (.ifCond .ne 17, 3) := by decide +kernel
theorem dX5_isBeyond_25 : decode cX5_isBeyond 25 = .ok (.aload_n 0, 1) := by decide +kernel
theorem dX5_isBeyond_26 : decode cX5_isBeyond 26 = .ok (.getfield 38, 3) := by decide +kernel
theorem dX5_isBeyond_29 : decode cX5_isBeyond 29 = .ok (.iload_n 3, 1) := by decide +kernel
theorem dX5_isBeyond_30 : decode cX5_isBeyond 30 = .ok (.iaload, 1) := by decide +kernel
theorem dX5_isBeyond_31 : decode cX5_isBeyond 31 = .ok (.iload_n 1, 1) := by decide +kernel
theorem dX5_isBeyond_32 : decode cX5_isBeyond 32 = .ok (.if_icmp .lt 7, 3) := by decide +kernel
theorem dX5_isBeyond_35 : decode cX5_isBeyond 35 = .ok (.iconst 1, 1) := by decide +kernel
theorem dX5_isBeyond_36 : decode cX5_isBeyond 36 = .ok (.goto 4, 3) := by decide +kernel
theorem dX5_isBeyond_39 : decode cX5_isBeyond 39 = .ok (.iconst 0, 1) := by decide +kernel
theorem dX5_isBeyond_40 : decode cX5_isBeyond 40 = .ok (.istore_n 2, 1) := by decide +kernel
theorem dX5_isBeyond_41 : decode cX5_isBeyond 41 = .ok (.iinc 3 1, 3) := by decide +kernel
theorem dX5_isBeyond_44 : decode cX5_isBeyond 44 = .ok (.goto (-40), 3) := by decide +kernel
theorem dX5_isBeyond_47 : decode cX5_isBeyond 47 = .ok (.iload_n 2, 1) := by decide +kernel
theorem dX5_isBeyond_48 : decode cX5_isBeyond 48 = .ok (.ireturn, 1) := by decide +kernel
theorem dX5_comesTold_0 : decode cX5_comesTold 0 = .ok (.iconst 4, 1) := by decide +kernel
theorem dX5_comesTold_1 : decode cX5_comesTold 1 = .ok (.iload_n 1, 1) := by decide +kernel
theorem dX5_comesTold_2 : decode cX5_comesTold 2 = .ok (.imul, 1) := by decide +kernel
theorem dX5_comesTold_3 : decode cX5_comesTold 3 = .ok (.istore_n 2, 1) := by decide +kernel
theorem dX5_comesTold_4 : decode cX5_comesTold 4 = .ok (.aload_n 0, 1) := by decide +kernel
theorem dX5_comesTold_5 : decode cX5_comesTold 5 = .ok (.getfield 65, 3) := by decide +kernel
theorem dX5_comesTold_8 : decode cX5_comesTold 8 = .ok (.iload_n 2, 1) := by decide +kernel
theorem dX5_comesTold_9 : decode cX5_comesTold 9 = .ok (.iaload, 1) := by decide +kernel
theorem dX5_comesTold_10 : decode cX5_comesTold 10 = .ok (.istore_n 3, 1) := by decide +kernel
theorem dX5_comesTold_11 : decode cX5_comesTold 11 = .ok (.aload_n 0, 1) := by decide +kernel
theorem dX5_comesTold_12 : decode cX5_comesTold 12 = .ok (.getfield 65, 3) := by decide +kernel
theorem dX5_comesTold_15 : decode cX5_comesTold 15 = .ok (.iload_n 2, 1) := by decide +kernel
theorem dX5_comesTold_16 : decode cX5_comesTold 16 = .ok (.iconst 1, 1) := by decide +kernel
theorem dX5_comesTold_17 : decode cX5_comesTold 17 = .ok (.iadd, 1) := by decide +kernel
theorem dX5_comesTold_18 : decode cX5_comesTold 18 = .ok (.iaload, 1) := by decide +kernel
theorem dX5_comesTold_19 : decode cX5_comesTold 19 = .ok (.istore 4, 2) := by decide +kernel
theorem dX5_comesTold_21 : decode cX5_comesTold 21 = .ok (.iconst 1, 1) := by decide +kernel
theorem dX5_comesTold_22 : decode cX5_comesTold 22 = .ok (.istore 5, 2) := by decide +kernel
theorem dX5_comesTold_24 : decode cX5_comesTold 24 = .ok (.aload_n 0, 1) := by decide +kernel
theorem dX5_comesTold_25 : decode cX5_comesTold 25 = .ok (.getfield 62, 3) := by decide +kernel
theorem dX5_comesTold_28 : decode cX5_comesTold 28 = .ok (.iload_n 1, 1) := by decide +kernel
theorem dX5_comesTold_29 : decode cX5_comesTold 29 = .ok (.iaload, 1) := by decide +kernel
theorem dX5_comesTold_30 : decode cX5_comesTold 30 = .ok (.lookupswitch 294 #[(99, 281), (110, 50), (116, 165), (119, 234), (121, 99)], 50) := by decide +kernel
theorem dX5_comesTold_80 : decode cX5_comesTold 80 = .ok (.iload_n 3, 1) := by decide +kernel
theorem dX5_comesTold_81 : decode cX5_comesTold 81 = .ok (.i2l, 1) := by decide +kernel
theorem dX5_comesTold_82 : decode cX5_comesTold 82 = .ok (.ldc2_w 174, 3) := by decide +kernel
theorem dX5_comesTold_85 : decode cX5_comesTold 85 = .ok (.ldc2_w 176, 3) := by decide +kernel
theorem dX5_comesTold_88 : decode cX5_comesTold 88 = .ok (.invokestatic 95, 3) := by decide +kernel
theorem dX5_comesTold_91 : decode cX5_comesTold 91 = .ok (.ifCond .eq 15, 3) := by decide +kernel
theorem dX5_comesTold_94 : decode cX5_comesTold 94 = .ok (.aload_n 0, 1) := by decide +kernel
theorem dX5_comesTold_95 : decode cX5_comesTold 95 = .ok (.iload_n 3, 1) := by decide +kernel
theorem dX5_comesTold_96 : decode cX5_comesTold 96 = .ok (.invokevirtual 178, 3) := by decide +kernel
theorem dX5_comesTold_99 : decode cX5_comesTold 99 = .ok (.ifCond .ne 7, 3) := by decide +kernel
theorem dX5_comesTold_102 : decode cX5_comesTold 102 = .ok (.iconst 1, 1) := by decide +kernel
theorem dX5_comesTold_103 : decode cX5_comesTold 103 = .ok (.goto 4, 3) := by decide +kernel
theorem dX5_comesTold_106 : decode cX5_comesTold 106 = .ok (.iconst 0, 1) := by decide +kernel
theorem dX5_comesTold_107 : decode cX5_comesTold 107 = .ok (.istore 5, 2) := by decide +kernel
theorem dX5_comesTold_109 : decode cX5_comesTold 109 = .ok (.aload_n 0, 1) := by decide +kernel
theorem dX5_comesTold_110 : decode cX5_comesTold 110 = .ok (.iload 5, 2) := by decide +kernel
theorem dX5_comesTold_112 : decode cX5_comesTold 112 = .ok (.ifCond .eq 7, 3) := by decide +kernel
theorem dX5_comesTold_115 : decode cX5_comesTold 115 = .ok (.iload_n 3, 1) := by decide +kernel
theorem dX5_comesTold_116 : decode cX5_comesTold 116 = .ok (.goto 7, 3) := by decide +kernel
theorem dX5_comesTold_119 : decode cX5_comesTold 119 = .ok (.aload_n 0, 1) := by decide +kernel
theorem dX5_comesTold_120 : decode cX5_comesTold 120 = .ok (.getfield 7, 3) := by decide +kernel
theorem dX5_comesTold_123 : decode cX5_comesTold 123 = .ok (.putfield 7, 3) := by decide +kernel
theorem dX5_comesTold_126 : decode cX5_comesTold 126 = .ok (.iload 5, 2) := by decide +kernel
theorem dX5_comesTold_128 : decode cX5_comesTold 128 = .ok (.ireturn, 1) := by decide +kernel
theorem dX5_comesTold_129 : decode cX5_comesTold 129 = .ok (.aload_n 0, 1) := by decide +kernel
theorem dX5_comesTold_130 : decode cX5_comesTold 130 = .ok (.iload_n 3, 1) := by decide +kernel
theorem dX5_comesTold_131 : decode cX5_comesTold 131 = .ok (.invokevirtual 181, 3) := by decide +kernel
theorem dX5_comesTold_134 : decode cX5_comesTold 134 = .ok (.ifCond .eq 14, 3) := by decide +kernel
theorem dX5_comesTold_137 : decode cX5_comesTold 137 = .ok (.iload 4, 2) := by decide +kernel
theorem dX5_comesTold_139 : decode cX5_comesTold 139 = .ok (.bipush 6, 2) := by decide +kernel
theorem dX5_comesTold_141 : decode cX5_comesTold 141 = .ok (.if_icmp .ge 7, 3) := by decide +kernel
theorem dX5_comesTold_144 : decode cX5_comesTold 144 = .ok (.iconst 1, 1) := by decide +kernel
theorem dX5_comesTold_145 : decode cX5_comesTold 145 = .ok (.goto 4, 3) := by decide +kernel
theorem dX5_comesTold_148 : decode cX5_comesTold 148 = .ok (.iconst 0, 1) := by decide +kernel
theorem dX5_comesTold_149 : decode cX5_comesTold 149 = .ok (.istore 5, 2) := by decide +kernel
theorem dX5_comesTold_151 : decode cX5_comesTold 151 = .ok (.iload 5, 2) := by decide +kernel
theorem dX5_comesTold_153 : decode cX5_comesTold 153 = .ok (.ifCond .eq 39, 3) := by decide +kernel
theorem dX5_comesTold_156 : decode cX5_comesTold 156 = .ok (.aload_n 0, 1) := by decide +kernel
theorem dX5_comesTold_157 : decode cX5_comesTold 157 = .ok (.getfield 13, 3) := by decide +kernel
theorem dX5_comesTold_160 : decode cX5_comesTold 160 = .ok (.iload_n 3, 1) := by decide +kernel
theorem dX5_comesTold_161 : decode cX5_comesTold 161 = .ok (.iload 4, 2) := by decide +kernel
theorem dX5_comesTold_163 : decode cX5_comesTold 163 = .ok (.iastore, 1) := by decide +kernel
theorem dX5_comesTold_164 : decode cX5_comesTold 164 = .ok (.aload_n 0, 1) := by decide +kernel
theorem dX5_comesTold_165 : decode cX5_comesTold 165 = .ok (.getfield 17, 3) := by decide +kernel
theorem dX5_comesTold_168 : decode cX5_comesTold 168 = .ok (.iload_n 3, 1) := by decide +kernel
theorem dX5_comesTold_169 : decode cX5_comesTold 169 = .ok (.aload_n 0, 1) := by decide +kernel
theorem dX5_comesTold_170 : decode cX5_comesTold 170 = .ok (.getfield 65, 3) := by decide +kernel
theorem dX5_comesTold_173 : decode cX5_comesTold 173 = .ok (.iload_n 2, 1) := by decide +kernel
theorem dX5_comesTold_174 : decode cX5_comesTold 174 = .ok (.iconst 2, 1) := by decide +kernel
theorem dX5_comesTold_175 : decode cX5_comesTold 175 = .ok (.iadd, 1) := by decide +kernel
theorem dX5_comesTold_176 : decode cX5_comesTold 176 = .ok (.iaload, 1) := by decide +kernel
theorem dX5_comesTold_177 : decode cX5_comesTold 177 = .ok (.iastore, 1) := by decide +kernel
theorem dX5_comesTold_178 : decode cX5_comesTold 178 = .ok (.aload_n 0, 1) := by decide +kernel
theorem dX5_comesTold_179 : decode cX5_comesTold 179 = .ok (.getfield 20, 3) := by decide +kernel
theorem dX5_comesTold_182 : decode cX5_comesTold 182 = .ok (.iload_n 3, 1) := by decide +kernel
theorem dX5_comesTold_183 : decode cX5_comesTold 183 = .ok (.aload_n 0, 1) := by decide +kernel
theorem dX5_comesTold_184 : decode cX5_comesTold 184 = .ok (.getfield 65, 3) := by decide +kernel
theorem dX5_comesTold_187 : decode cX5_comesTold 187 = .ok (.iload_n 2, 1) := by decide +kernel
theorem dX5_comesTold_188 : decode cX5_comesTold 188 = .ok (.iconst 3, 1) := by decide +kernel
theorem dX5_comesTold_189 : decode cX5_comesTold 189 = .ok (.iadd, 1) := by decide +kernel
theorem dX5_comesTold_190 : decode cX5_comesTold 190 = .ok (.iaload, 1) := by decide +kernel
theorem dX5_comesTold_191 : decode cX5_comesTold 191 = .ok (.iastore, 1) := by decide +kernel
theorem dX5_comesTold_192 : decode cX5_comesTold 192 = .ok (.iload 5, 2) := by decide +kernel
theorem dX5_comesTold_194 : decode cX5_comesTold 194 = .ok (.ireturn, 1) := by decide +kernel
theorem dX5_comesTold_195 : decode cX5_comesTold 195 = .ok (.iload_n 3, 1) := by decide +kernel
theorem dX5_comesTold_196 : decode cX5_comesTold 196 = .ok (.i2l, 1) := by decide +kernel
theorem dX5_comesTold_197 : decode cX5_comesTold 197 = .ok (.lconst 1, 1) := by decide +kernel
theorem dX5_comesTold_198 : decode cX5_comesTold 198 = .ok (.ldc2_w 184, 3) := by decide +kernel
theorem dX5_comesTold_201 : decode cX5_comesTold 201 = .ok (.invokestatic 95, 3) := by decide +kernel
theorem dX5_comesTold_204 : decode cX5_comesTold 204 = .ok (.ifCond .eq 34, 3) := by decide +kernel
theorem dX5_comesTold_207 : decode cX5_comesTold 207 = .ok (.aload_n 0, 1) := by decide +kernel
theorem dX5_comesTold_208 : decode cX5_comesTold 208 = .ok (.getfield 65, 3) := by decide +kernel
theorem dX5_comesTold_211 : decode cX5_comesTold 211 = .ok (.iload_n 2, 1) := by decide +kernel
theorem dX5_comesTold_212 : decode cX5_comesTold 212 = .ok (.iconst 2, 1) := by decide +kernel
theorem dX5_comesTold_213 : decode cX5_comesTold 213 = .ok (.iadd, 1) := by decide +kernel
theorem dX5_comesTold_214 : decode cX5_comesTold 214 = .ok (.iaload, 1) := by decide +kernel
theorem dX5_comesTold_215 : decode cX5_comesTold 215 = .ok (.i2l, 1) := by decide +kernel
theorem dX5_comesTold_216 : decode cX5_comesTold 216 = .ok (.lconst 1, 1) := by decide +kernel
theorem dX5_comesTold_217 : decode cX5_comesTold 217 = .ok (.ldc2_w 186, 3) := by decide +kernel
theorem dX5_comesTold_220 : decode cX5_comesTold 220 = .ok (.invokestatic 95, 3) := by decide +kernel
theorem dX5_comesTold_223 : decode cX5_comesTold 223 = .ok (.ifCond .eq 15, 3) := by decide +kernel
theorem dX5_comesTold_226 : decode cX5_comesTold 226 = .ok (.aload_n 0, 1) := by decide +kernel
theorem dX5_comesTold_227 : decode cX5_comesTold 227 = .ok (.getfield 99, 3) := by decide +kernel
theorem dX5_comesTold_230 : decode cX5_comesTold 230 = .ok (.iconst 5, 1) := by decide +kernel
theorem dX5_comesTold_231 : decode cX5_comesTold 231 = .ok (.if_icmp .ge 7, 3) := by decide +kernel
theorem dX5_comesTold_234 : decode cX5_comesTold 234 = .ok (.iconst 1, 1) := by decide +kernel
theorem dX5_comesTold_235 : decode cX5_comesTold 235 = .ok (.goto 4, 3) := by decide +kernel
theorem dX5_comesTold_238 : decode cX5_comesTold 238 = .ok (.iconst 0, 1) := by decide +kernel
theorem dX5_comesTold_239 : decode cX5_comesTold 239 = .ok (.istore 5, 2) := by decide +kernel
theorem dX5_comesTold_241 : decode cX5_comesTold 241 = .ok (.iload 5, 2) := by decide +kernel
theorem dX5_comesTold_243 : decode cX5_comesTold 243 = .ok (.ifCond .eq 18, 3) := by decide +kernel
theorem dX5_comesTold_246 : decode cX5_comesTold 246 = .ok (.aload_n 0, 1) := by decide +kernel
theorem dX5_comesTold_247 : decode cX5_comesTold 247 = .ok (.iload_n 3, 1) := by decide +kernel
theorem dX5_comesTold_248 : decode cX5_comesTold 248 = .ok (.iload 4, 2) := by decide +kernel
theorem dX5_comesTold_250 : decode cX5_comesTold 250 = .ok (.aload_n 0, 1) := by decide +kernel
theorem dX5_comesTold_251 : decode cX5_comesTold 251 = .ok (.getfield 65, 3) := by decide +kernel
theorem dX5_comesTold_254 : decode cX5_comesTold 254 = .ok (.iload_n 2, 1) := by decide +kernel
theorem dX5_comesTold_255 : decode cX5_comesTold 255 = .ok (.iconst 2, 1) := by decide +kernel
theorem dX5_comesTold_256 : decode cX5_comesTold 256 = .ok (.iadd, 1) := by decide +kernel
theorem dX5_comesTold_257 : decode cX5_comesTold 257 = .ok (.iaload, 1) := by decide +kernel
theorem dX5_comesTold_258 : decode cX5_comesTold 258 = .ok (.invokevirtual 188, 3) := by decide +kernel
theorem dX5_comesTold_261 : decode cX5_comesTold 261 = .ok (.iload 5, 2) := by decide +kernel
theorem dX5_comesTold_263 : decode cX5_comesTold 263 = .ok (.ireturn, 1) := by decide +kernel
theorem dX5_comesTold_264 : decode cX5_comesTold 264 = .ok (.aload_n 0, 1) := by decide +kernel
theorem dX5_comesTold_265 : decode cX5_comesTold 265 = .ok (.iload_n 3, 1) := by decide +kernel
theorem dX5_comesTold_266 : decode cX5_comesTold 266 = .ok (.invokevirtual 192, 3) := by decide +kernel
theorem dX5_comesTold_269 : decode cX5_comesTold 269 = .ok (.ifCond .eq 23, 3) := by decide +kernel
theorem dX5_comesTold_272 : decode cX5_comesTold 272 = .ok (.iload 4, 2) := by decide +kernel
theorem dX5_comesTold_274 : decode cX5_comesTold 274 = .ok (.bipush 48, 2) := by decide +kernel
theorem dX5_comesTold_276 : decode cX5_comesTold 276 = .ok (.if_icmp .gt 16, 3) := by decide +kernel
theorem dX5_comesTold_279 : decode cX5_comesTold 279 = .ok (.aload_n 0, 1) := by decide +kernel
theorem dX5_comesTold_280 : decode cX5_comesTold 280 = .ok (.getfield 44, 3) := by decide +kernel
theorem dX5_comesTold_283 : decode cX5_comesTold 283 = .ok (.iload_n 3, 1) := by decide +kernel
theorem dX5_comesTold_284 : decode cX5_comesTold 284 = .ok (.iaload, 1) := by decide +kernel
theorem dX5_comesTold_285 : decode cX5_comesTold 285 = .ok (.ifCond .ne 7, 3) := by decide +kernel
theorem dX5_comesTold_288 : decode cX5_comesTold 288 = .ok (.iconst 1, 1) := by decide +kernel
theorem dX5_comesTold_289 : decode cX5_comesTold 289 = .ok (.goto 4, 3) := by decide +kernel
theorem dX5_comesTold_292 : decode cX5_comesTold 292 = .ok (.iconst 0, 1) := by decide +kernel
theorem dX5_comesTold_293 : decode cX5_comesTold 293 = .ok (.istore 5, 2) := by decide +kernel
theorem dX5_comesTold_295 : decode cX5_comesTold 295 = .ok (.iload 5, 2) := by decide +kernel
theorem dX5_comesTold_297 : decode cX5_comesTold 297 = .ok (.ifCond .eq 11, 3) := by decide +kernel
theorem dX5_comesTold_300 : decode cX5_comesTold 300 = .ok (.aload_n 0, 1) := by decide +kernel
theorem dX5_comesTold_301 : decode cX5_comesTold 301 = .ok (.getfield 41, 3) := by decide +kernel
theorem dX5_comesTold_304 : decode cX5_comesTold 304 = .ok (.iload_n 3, 1) := by decide +kernel
theorem dX5_comesTold_305 : decode cX5_comesTold 305 = .ok (.iload 4, 2) := by decide +kernel
theorem dX5_comesTold_307 : decode cX5_comesTold 307 = .ok (.iastore, 1) := by decide +kernel
theorem dX5_comesTold_308 : decode cX5_comesTold 308 = .ok (.iload 5, 2) := by decide +kernel
theorem dX5_comesTold_310 : decode cX5_comesTold 310 = .ok (.ireturn, 1) := by decide +kernel
theorem dX5_comesTold_311 : decode cX5_comesTold 311 = .ok (.aload_n 0, 1) := by decide +kernel
theorem dX5_comesTold_312 : decode cX5_comesTold 312 = .ok (.iload_n 3, 1) := by decide +kernel
theorem dX5_comesTold_313 : decode cX5_comesTold 313 = .ok (.putfield 23, 3) := by decide +kernel
theorem dX5_comesTold_316 : decode cX5_comesTold 316 = .ok (.aload_n 0, 1) := by decide +kernel
theorem dX5_comesTold_317 : decode cX5_comesTold 317 = .ok (.iload 4, 2) := by decide +kernel
theorem dX5_comesTold_319 : decode cX5_comesTold 319 = .ok (.putfield 26, 3) := by decide +kernel
theorem dX5_comesTold_322 : decode cX5_comesTold 322 = .ok (.iconst 1, 1) := by decide +kernel
theorem dX5_comesTold_323 : decode cX5_comesTold 323 = .ok (.ireturn, 1) := by decide +kernel
theorem dX5_comesTold_324 : decode cX5_comesTold 324 = .ok (.iload_n 3, 1) := by decide +kernel
theorem dX5_comesTold_325 : decode cX5_comesTold 325 = .ok (.i2l, 1) := by decide +kernel
theorem dX5_comesTold_326 : decode cX5_comesTold 326 = .ok (.lconst 1, 1) := by decide +kernel
theorem dX5_comesTold_327 : decode cX5_comesTold 327 = .ok (.ldc2_w 195, 3) := by decide +kernel
theorem dX5_comesTold_330 : decode cX5_comesTold 330 = .ok (.invokestatic 95, 3) := by decide +kernel
theorem dX5_comesTold_333 : decode cX5_comesTold 333 = .ok (.ifCond .eq 19, 3) := by decide +kernel
theorem dX5_comesTold_336 : decode cX5_comesTold 336 = .ok (.aload_n 0, 1) := by decide +kernel
theorem dX5_comesTold_337 : decode cX5_comesTold 337 = .ok (.getfield 120, 3) := by decide +kernel
theorem dX5_comesTold_340 : decode cX5_comesTold 340 = .ok (.iload_n 3, 1) := by decide +kernel
theorem dX5_comesTold_341 : decode cX5_comesTold 341 = .ok (.iadd, 1) := by decide +kernel
theorem dX5_comesTold_342 : decode cX5_comesTold 342 = .ok (.sipush 999, 3) := by decide +kernel
theorem dX5_comesTold_345 : decode cX5_comesTold 345 = .ok (.if_icmp .gt 7, 3) := by decide +kernel
theorem dX5_comesTold_348 : decode cX5_comesTold 348 = .ok (.iconst 1, 1) := by decide +kernel
theorem dX5_comesTold_349 : decode cX5_comesTold 349 = .ok (.goto 4, 3) := by decide +kernel
theorem dX5_comesTold_352 : decode cX5_comesTold 352 = .ok (.iconst 0, 1) := by decide +kernel
theorem dX5_comesTold_353 : decode cX5_comesTold 353 = .ok (.istore 5, 2) := by decide +kernel
theorem dX5_comesTold_355 : decode cX5_comesTold 355 = .ok (.iload 5, 2) := by decide +kernel
theorem dX5_comesTold_357 : decode cX5_comesTold 357 = .ok (.ifCond .eq 8, 3) := by decide +kernel
theorem dX5_comesTold_360 : decode cX5_comesTold 360 = .ok (.aload_n 0, 1) := by decide +kernel
theorem dX5_comesTold_361 : decode cX5_comesTold 361 = .ok (.iload_n 3, 1) := by decide +kernel
theorem dX5_comesTold_362 : decode cX5_comesTold 362 = .ok (.invokevirtual 197, 3) := by decide +kernel
theorem dX5_comesTold_365 : decode cX5_comesTold 365 = .ok (.iload 5, 2) := by decide +kernel
theorem dX5_comesTold_367 : decode cX5_comesTold 367 = .ok (.ireturn, 1) := by decide +kernel
theorem dX5_line_0 : decode cX5_line 0 = .ok (.aload_n 0, 1) := by decide +kernel
theorem dX5_line_1 : decode cX5_line 1 = .ok (.iconst 0, 1) := by decide +kernel
theorem dX5_line_2 : decode cX5_line 2 = .ok (.putfield 92, 3) := by decide +kernel
theorem dX5_line_5 : decode cX5_line 5 = .ok (.aload_n 0, 1) := by decide +kernel
theorem dX5_line_6 : decode cX5_line 6 = .ok (.iconst 0, 1) := by decide +kernel
theorem dX5_line_7 : decode cX5_line 7 = .ok (.putfield 145, 3) := by decide +kernel
theorem dX5_line_10 : decode cX5_line 10 = .ok (.aload_n 0, 1) := by decide +kernel
theorem dX5_line_11 : decode cX5_line 11 = .ok (.iconst 0, 1) := by decide +kernel
theorem dX5_line_12 : decode cX5_line 12 = .ok (.putfield 148, 3) := by decide +kernel
theorem dX5_line_15 : decode cX5_line 15 = .ok (.aload_n 0, 1) := by decide +kernel
theorem dX5_line_16 : decode cX5_line 16 = .ok (.iconst 0, 1) := by decide +kernel
theorem dX5_line_17 : decode cX5_line 17 = .ok (.putfield 163, 3) := by decide +kernel
theorem dX5_line_20 : decode cX5_line 20 = .ok (.aload_n 0, 1) := by decide +kernel
theorem dX5_line_21 : decode cX5_line 21 = .ok (.getfield 148, 3) := by decide +kernel
theorem dX5_line_24 : decode cX5_line 24 = .ok (.ifCond .ne 28, 3) := by decide +kernel
theorem dX5_line_27 : decode cX5_line 27 = .ok (.aload_n 0, 1) := by decide +kernel
theorem dX5_line_28 : decode cX5_line 28 = .ok (.getfield 163, 3) := by decide +kernel
theorem dX5_line_31 : decode cX5_line 31 = .ok (.ifCond .eq 14, 3) := by decide +kernel
theorem dX5_line_34 : decode cX5_line 34 = .ok (.aload_n 0, 1) := by decide +kernel
theorem dX5_line_35 : decode cX5_line 35 = .ok (.getfield 145, 3) := by decide +kernel
theorem dX5_line_38 : decode cX5_line 38 = .ok (.aload_n 0, 1) := by decide +kernel
theorem dX5_line_39 : decode cX5_line 39 = .ok (.getfield 142, 3) := by decide +kernel
theorem dX5_line_42 : decode cX5_line 42 = .ok (.if_icmp .ge 10, 3) := by decide +kernel
theorem dX5_line_45 : decode cX5_line 45 = .ok (.aload_n 0, 1) := by decide +kernel
theorem dX5_line_46 : decode cX5_line 46 = .ok (.invokevirtual 200, 3) := by decide +kernel
theorem dX5_line_49 : decode cX5_line 49 = .ok (.goto (-29), 3) := by decide +kernel
theorem dX5_line_52 : decode cX5_line 52 = .ok (.aload_n 0, 1) := by decide +kernel
theorem dX5_line_53 : decode cX5_line 53 = .ok (.iconst 0, 1) := by decide +kernel
theorem dX5_line_54 : decode cX5_line 54 = .ok (.putfield 142, 3) := by decide +kernel
theorem dX5_line_57 : decode cX5_line 57 = .ok (.aload_n 0, 1) := by decide +kernel
theorem dX5_line_58 : decode cX5_line 58 = .ok (.getfield 148, 3) := by decide +kernel
theorem dX5_line_61 : decode cX5_line 61 = .ok (.ifCond .eq 12, 3) := by decide +kernel
theorem dX5_line_64 : decode cX5_line 64 = .ok (.sipush (-1000), 3) := by decide +kernel
theorem dX5_line_67 : decode cX5_line 67 = .ok (.aload_n 0, 1) := by decide +kernel
theorem dX5_line_68 : decode cX5_line 68 = .ok (.getfield 145, 3) := by decide +kernel
theorem dX5_line_71 : decode cX5_line 71 = .ok (.isub, 1) := by decide +kernel
theorem dX5_line_72 : decode cX5_line 72 = .ok (.ireturn, 1) := by decide +kernel
theorem dX5_line_73 : decode cX5_line 73 = .ok (.aload_n 0, 1) := by decide +kernel
theorem dX5_line_74 : decode cX5_line 74 = .ok (.invokevirtual 203, 3) := by decide +kernel
theorem dX5_line_77 : decode cX5_line 77 = .ok (.iconst 0, 1) := by decide +kernel
theorem dX5_line_78 : decode cX5_line 78 = .ok (.istore_n 1, 1) := by decide +kernel
theorem dX5_line_79 : decode cX5_line 79 = .ok (.iload_n 1, 1) := by decide +kernel
theorem dX5_line_80 : decode cX5_line 80 = .ok (.aload_n 0, 1) := by decide +kernel
theorem dX5_line_81 : decode cX5_line 81 = .ok (.getfield 163, 3) := by decide +kernel
theorem dX5_line_84 : decode cX5_line 84 = .ok (.if_icmp .ge 32, 3) := by decide +kernel
theorem dX5_line_87 : decode cX5_line 87 = .ok (.aload_n 0, 1) := by decide +kernel
theorem dX5_line_88 : decode cX5_line 88 = .ok (.iload_n 1, 1) := by decide +kernel
theorem dX5_line_89 : decode cX5_line 89 = .ok (.invokevirtual 206, 3) := by decide +kernel
theorem dX5_line_92 : decode cX5_line 92 = .ok (.ifCond .ne 18, 3) := by decide +kernel
theorem dX5_line_95 : decode cX5_line 95 = .ok (.aload_n 0, 1) := by decide +kernel
theorem dX5_line_96 : decode cX5_line 96 = .ok (.invokevirtual 209, 3) := by decide +kernel
theorem dX5_line_99 : decode cX5_line 99 = .ok (.sipush (-2000), 3) := by decide +kernel
theorem dX5_line_102 : decode cX5_line 102 = .ok (.aload_n 0, 1) := by decide +kernel
theorem dX5_line_103 : decode cX5_line 103 = .ok (.getfield 59, 3) := by decide +kernel
theorem dX5_line_106 : decode cX5_line 106 = .ok (.iload_n 1, 1) := by decide +kernel
theorem dX5_line_107 : decode cX5_line 107 = .ok (.iaload, 1) := by decide +kernel
theorem dX5_line_108 : decode cX5_line 108 = .ok (.isub, 1) := by decide +kernel
theorem dX5_line_109 : decode cX5_line 109 = .ok (.ireturn, 1) := by decide +kernel
theorem dX5_line_110 : decode cX5_line 110 = .ok (.iinc 1 1, 3) := by decide +kernel
theorem dX5_line_113 : decode cX5_line 113 = .ok (.goto (-34), 3) := by decide +kernel
theorem dX5_line_116 : decode cX5_line 116 = .ok (.aload_n 0, 1) := by decide +kernel
theorem dX5_line_117 : decode cX5_line 117 = .ok (.iconst 0, 1) := by decide +kernel
theorem dX5_line_118 : decode cX5_line 118 = .ok (.putfield 212, 3) := by decide +kernel
theorem dX5_line_121 : decode cX5_line 121 = .ok (.aload_n 0, 1) := by decide +kernel
theorem dX5_line_122 : decode cX5_line 122 = .ok (.getfield 163, 3) := by decide +kernel
theorem dX5_line_125 : decode cX5_line 125 = .ok (.ireturn, 1) := by decide +kernel
theorem dX5_carry_0 : decode cX5_carry 0 = .ok (.aload_n 0, 1) := by decide +kernel
theorem dX5_carry_1 : decode cX5_carry 1 = .ok (.getfield 215, 3) := by decide +kernel
theorem dX5_carry_4 : decode cX5_carry 4 = .ok (.ifCond .eq 13, 3) := by decide +kernel
theorem dX5_carry_7 : decode cX5_carry 7 = .ok (.aload_n 0, 1) := by decide +kernel
theorem dX5_carry_8 : decode cX5_carry 8 = .ok (.getfield 218, 3) := by decide +kernel
theorem dX5_carry_11 : decode cX5_carry 11 = .ok (.aload_n 0, 1) := by decide +kernel
theorem dX5_carry_12 : decode cX5_carry 12 = .ok (.getfield 221, 3) := by decide +kernel
theorem dX5_carry_15 : decode cX5_carry 15 = .ok (.iload_n 1, 1) := by decide +kernel
theorem dX5_carry_16 : decode cX5_carry 16 = .ok (.iastore, 1) := by decide +kernel
theorem dX5_carry_17 : decode cX5_carry 17 = .ok (.aload_n 0, 1) := by decide +kernel
theorem dX5_carry_18 : decode cX5_carry 18 = .ok (.dup, 1) := by decide +kernel
theorem dX5_carry_19 : decode cX5_carry 19 = .ok (.getfield 221, 3) := by decide +kernel
theorem dX5_carry_22 : decode cX5_carry 22 = .ok (.iconst 1, 1) := by decide +kernel
theorem dX5_carry_23 : decode cX5_carry 23 = .ok (.iadd, 1) := by decide +kernel
theorem dX5_carry_24 : decode cX5_carry 24 = .ok (.putfield 221, 3) := by decide +kernel
theorem dX5_carry_27 : decode cX5_carry 27 = .ok (.aload_n 0, 1) := by decide +kernel
theorem dX5_carry_28 : decode cX5_carry 28 = .ok (.getfield 218, 3) := by decide +kernel
theorem dX5_carry_31 : decode cX5_carry 31 = .ok (.aload_n 0, 1) := by decide +kernel
theorem dX5_carry_32 : decode cX5_carry 32 = .ok (.getfield 221, 3) := by decide +kernel
theorem dX5_carry_35 : decode cX5_carry 35 = .ok (.iconst 1, 1) := by decide +kernel
theorem dX5_carry_36 : decode cX5_carry 36 = .ok (.isub, 1) := by decide +kernel
theorem dX5_carry_37 : decode cX5_carry 37 = .ok (.iaload, 1) := by decide +kernel
theorem dX5_carry_38 : decode cX5_carry 38 = .ok (.ireturn, 1) := by decide +kernel
theorem dX5_carryAll_0 : decode cX5_carryAll 0 = .ok (.aload_n 0, 1) := by decide +kernel
theorem dX5_carryAll_1 : decode cX5_carryAll 1 = .ok (.aload_n 1, 1) := by decide +kernel
theorem dX5_carryAll_2 : decode cX5_carryAll 2 = .ok (.putfield 218, 3) := by decide +kernel
theorem dX5_carryAll_5 : decode cX5_carryAll 5 = .ok (.aload_n 0, 1) := by decide +kernel
theorem dX5_carryAll_6 : decode cX5_carryAll 6 = .ok (.iload_n 2, 1) := by decide +kernel
theorem dX5_carryAll_7 : decode cX5_carryAll 7 = .ok (.putfield 215, 3) := by decide +kernel
theorem dX5_carryAll_10 : decode cX5_carryAll 10 = .ok (.aload_n 0, 1) := by decide +kernel
theorem dX5_carryAll_11 : decode cX5_carryAll 11 = .ok (.iconst 0, 1) := by decide +kernel
theorem dX5_carryAll_12 : decode cX5_carryAll 12 = .ok (.putfield 221, 3) := by decide +kernel
theorem dX5_carryAll_15 : decode cX5_carryAll 15 = .ok (.aload_n 0, 1) := by decide +kernel
theorem dX5_carryAll_16 : decode cX5_carryAll 16 = .ok (.aload_n 0, 1) := by decide +kernel
theorem dX5_carryAll_17 : decode cX5_carryAll 17 = .ok (.aload_n 0, 1) := by decide +kernel
theorem dX5_carryAll_18 : decode cX5_carryAll 18 = .ok (.getfield 7, 3) := by decide +kernel
theorem dX5_carryAll_21 : decode cX5_carryAll 21 = .ok (.invokevirtual 224, 3) := by decide +kernel
theorem dX5_carryAll_24 : decode cX5_carryAll 24 = .ok (.putfield 7, 3) := by decide +kernel
theorem dX5_carryAll_27 : decode cX5_carryAll 27 = .ok (.aload_n 0, 1) := by decide +kernel
theorem dX5_carryAll_28 : decode cX5_carryAll 28 = .ok (.aload_n 0, 1) := by decide +kernel
theorem dX5_carryAll_29 : decode cX5_carryAll 29 = .ok (.aload_n 0, 1) := by decide +kernel
theorem dX5_carryAll_30 : decode cX5_carryAll 30 = .ok (.getfield 120, 3) := by decide +kernel
theorem dX5_carryAll_33 : decode cX5_carryAll 33 = .ok (.invokevirtual 224, 3) := by decide +kernel
theorem dX5_carryAll_36 : decode cX5_carryAll 36 = .ok (.putfield 120, 3) := by decide +kernel
theorem dX5_carryAll_39 : decode cX5_carryAll 39 = .ok (.aload_n 0, 1) := by decide +kernel
theorem dX5_carryAll_40 : decode cX5_carryAll 40 = .ok (.aload_n 0, 1) := by decide +kernel
theorem dX5_carryAll_41 : decode cX5_carryAll 41 = .ok (.aload_n 0, 1) := by decide +kernel
theorem dX5_carryAll_42 : decode cX5_carryAll 42 = .ok (.getfield 23, 3) := by decide +kernel
theorem dX5_carryAll_45 : decode cX5_carryAll 45 = .ok (.invokevirtual 224, 3) := by decide +kernel
theorem dX5_carryAll_48 : decode cX5_carryAll 48 = .ok (.putfield 23, 3) := by decide +kernel
theorem dX5_carryAll_51 : decode cX5_carryAll 51 = .ok (.aload_n 0, 1) := by decide +kernel
theorem dX5_carryAll_52 : decode cX5_carryAll 52 = .ok (.aload_n 0, 1) := by decide +kernel
theorem dX5_carryAll_53 : decode cX5_carryAll 53 = .ok (.aload_n 0, 1) := by decide +kernel
theorem dX5_carryAll_54 : decode cX5_carryAll 54 = .ok (.getfield 26, 3) := by decide +kernel
theorem dX5_carryAll_57 : decode cX5_carryAll 57 = .ok (.invokevirtual 224, 3) := by decide +kernel
theorem dX5_carryAll_60 : decode cX5_carryAll 60 = .ok (.putfield 26, 3) := by decide +kernel
theorem dX5_carryAll_63 : decode cX5_carryAll 63 = .ok (.aload_n 0, 1) := by decide +kernel
theorem dX5_carryAll_64 : decode cX5_carryAll 64 = .ok (.aload_n 0, 1) := by decide +kernel
theorem dX5_carryAll_65 : decode cX5_carryAll 65 = .ok (.aload_n 0, 1) := by decide +kernel
theorem dX5_carryAll_66 : decode cX5_carryAll 66 = .ok (.getfield 99, 3) := by decide +kernel
theorem dX5_carryAll_69 : decode cX5_carryAll 69 = .ok (.invokevirtual 224, 3) := by decide +kernel
theorem dX5_carryAll_72 : decode cX5_carryAll 72 = .ok (.putfield 99, 3) := by decide +kernel
theorem dX5_carryAll_75 : decode cX5_carryAll 75 = .ok (.iconst 0, 1) := by decide +kernel
theorem dX5_carryAll_76 : decode cX5_carryAll 76 = .ok (.istore_n 3, 1) := by decide +kernel
theorem dX5_carryAll_77 : decode cX5_carryAll 77 = .ok (.iload_n 3, 1) := by decide +kernel
theorem dX5_carryAll_78 : decode cX5_carryAll 78 = .ok (.bipush 16, 2) := by decide +kernel
theorem dX5_carryAll_80 : decode cX5_carryAll 80 = .ok (.if_icmp .ge 57, 3) := by decide +kernel
theorem dX5_carryAll_83 : decode cX5_carryAll 83 = .ok (.aload_n 0, 1) := by decide +kernel
theorem dX5_carryAll_84 : decode cX5_carryAll 84 = .ok (.getfield 13, 3) := by decide +kernel
theorem dX5_carryAll_87 : decode cX5_carryAll 87 = .ok (.iload_n 3, 1) := by decide +kernel
theorem dX5_carryAll_88 : decode cX5_carryAll 88 = .ok (.aload_n 0, 1) := by decide +kernel
theorem dX5_carryAll_89 : decode cX5_carryAll 89 = .ok (.aload_n 0, 1) := by decide +kernel
theorem dX5_carryAll_90 : decode cX5_carryAll 90 = .ok (.getfield 13, 3) := by decide +kernel
theorem dX5_carryAll_93 : decode cX5_carryAll 93 = .ok (.iload_n 3, 1) := by decide +kernel
theorem dX5_carryAll_94 : decode cX5_carryAll 94 = .ok (.iaload, 1) := by decide +kernel
theorem dX5_carryAll_95 : decode cX5_carryAll 95 = .ok (.invokevirtual 224, 3) := by decide +kernel
theorem dX5_carryAll_98 : decode cX5_carryAll 98 = .ok (.iastore, 1) := by decide +kernel
theorem dX5_carryAll_99 : decode cX5_carryAll 99 = .ok (.aload_n 0, 1) := by decide +kernel
theorem dX5_carryAll_100 : decode cX5_carryAll 100 = .ok (.getfield 17, 3) := by decide +kernel
theorem dX5_carryAll_103 : decode cX5_carryAll 103 = .ok (.iload_n 3, 1) := by decide +kernel
theorem dX5_carryAll_104 : decode cX5_carryAll 104 = .ok (.aload_n 0, 1) := by decide +kernel
theorem dX5_carryAll_105 : decode cX5_carryAll 105 = .ok (.aload_n 0, 1) := by decide +kernel
theorem dX5_carryAll_106 : decode cX5_carryAll 106 = .ok (.getfield 17, 3) := by decide +kernel
theorem dX5_carryAll_109 : decode cX5_carryAll 109 = .ok (.iload_n 3, 1) := by decide +kernel
theorem dX5_carryAll_110 : decode cX5_carryAll 110 = .ok (.iaload, 1) := by decide +kernel
theorem dX5_carryAll_111 : decode cX5_carryAll 111 = .ok (.invokevirtual 224, 3) := by decide +kernel
theorem dX5_carryAll_114 : decode cX5_carryAll 114 = .ok (.iastore, 1) := by decide +kernel
theorem dX5_carryAll_115 : decode cX5_carryAll 115 = .ok (.aload_n 0, 1) := by decide +kernel
theorem dX5_carryAll_116 : decode cX5_carryAll 116 = .ok (.getfield 20, 3) := by decide +kernel
theorem dX5_carryAll_119 : decode cX5_carryAll 119 = .ok (.iload_n 3, 1) := by decide +kernel
theorem dX5_carryAll_120 : decode cX5_carryAll 120 = .ok (.aload_n 0, 1) := by decide +kernel
theorem dX5_carryAll_121 : decode cX5_carryAll 121 = .ok (.aload_n 0, 1) := by decide +kernel
theorem dX5_carryAll_122 : decode cX5_carryAll 122 = .ok (.getfield 20, 3) := by decide +kernel
theorem dX5_carryAll_125 : decode cX5_carryAll 125 = .ok (.iload_n 3, 1) := by decide +kernel
theorem dX5_carryAll_126 : decode cX5_carryAll 126 = .ok (.iaload, 1) := by decide +kernel
theorem dX5_carryAll_127 : decode cX5_carryAll 127 = .ok (.invokevirtual 224, 3) := by decide +kernel
theorem dX5_carryAll_130 : decode cX5_carryAll 130 = .ok (.iastore, 1) := by decide +kernel
theorem dX5_carryAll_131 : decode cX5_carryAll 131 = .ok (.iinc 3 1, 3) := by decide +kernel
theorem dX5_carryAll_134 : decode cX5_carryAll 134 = .ok (.goto (-57), 3) := by decide +kernel
theorem dX5_carryAll_137 : decode cX5_carryAll 137 = .ok (.iconst 0, 1) := by decide +kernel
theorem dX5_carryAll_138 : decode cX5_carryAll 138 = .ok (.istore_n 3, 1) := by decide +kernel
theorem dX5_carryAll_139 : decode cX5_carryAll 139 = .ok (.iload_n 3, 1) := by decide +kernel
theorem dX5_carryAll_140 : decode cX5_carryAll 140 = .ok (.iconst 5, 1) := by decide +kernel
theorem dX5_carryAll_141 : decode cX5_carryAll 141 = .ok (.if_icmp .ge 105, 3) := by decide +kernel
theorem dX5_carryAll_144 : decode cX5_carryAll 144 = .ok (.aload_n 0, 1) := by decide +kernel
theorem dX5_carryAll_145 : decode cX5_carryAll 145 = .ok (.getfield 29, 3) := by decide +kernel
theorem dX5_carryAll_148 : decode cX5_carryAll 148 = .ok (.iload_n 3, 1) := by decide +kernel
theorem dX5_carryAll_149 : decode cX5_carryAll 149 = .ok (.aload_n 0, 1) := by decide +kernel
theorem dX5_carryAll_150 : decode cX5_carryAll 150 = .ok (.aload_n 0, 1) := by decide +kernel
theorem dX5_carryAll_151 : decode cX5_carryAll 151 = .ok (.getfield 29, 3) := by decide +kernel
theorem dX5_carryAll_154 : decode cX5_carryAll 154 = .ok (.iload_n 3, 1) := by decide +kernel
theorem dX5_carryAll_155 : decode cX5_carryAll 155 = .ok (.iaload, 1) := by decide +kernel
theorem dX5_carryAll_156 : decode cX5_carryAll 156 = .ok (.invokevirtual 224, 3) := by decide +kernel
theorem dX5_carryAll_159 : decode cX5_carryAll 159 = .ok (.iastore, 1) := by decide +kernel
theorem dX5_carryAll_160 : decode cX5_carryAll 160 = .ok (.aload_n 0, 1) := by decide +kernel
theorem dX5_carryAll_161 : decode cX5_carryAll 161 = .ok (.getfield 32, 3) := by decide +kernel
theorem dX5_carryAll_164 : decode cX5_carryAll 164 = .ok (.iload_n 3, 1) := by decide +kernel
theorem dX5_carryAll_165 : decode cX5_carryAll 165 = .ok (.aload_n 0, 1) := by decide +kernel
theorem dX5_carryAll_166 : decode cX5_carryAll 166 = .ok (.aload_n 0, 1) := by decide +kernel
theorem dX5_carryAll_167 : decode cX5_carryAll 167 = .ok (.getfield 32, 3) := by decide +kernel
theorem dX5_carryAll_170 : decode cX5_carryAll 170 = .ok (.iload_n 3, 1) := by decide +kernel
theorem dX5_carryAll_171 : decode cX5_carryAll 171 = .ok (.iaload, 1) := by decide +kernel
theorem dX5_carryAll_172 : decode cX5_carryAll 172 = .ok (.invokevirtual 224, 3) := by decide +kernel
theorem dX5_carryAll_175 : decode cX5_carryAll 175 = .ok (.iastore, 1) := by decide +kernel
theorem dX5_carryAll_176 : decode cX5_carryAll 176 = .ok (.aload_n 0, 1) := by decide +kernel
theorem dX5_carryAll_177 : decode cX5_carryAll 177 = .ok (.getfield 35, 3) := by decide +kernel
theorem dX5_carryAll_180 : decode cX5_carryAll 180 = .ok (.iload_n 3, 1) := by decide +kernel
theorem dX5_carryAll_181 : decode cX5_carryAll 181 = .ok (.aload_n 0, 1) := by decide +kernel
theorem dX5_carryAll_182 : decode cX5_carryAll 182 = .ok (.aload_n 0, 1) := by decide +kernel
theorem dX5_carryAll_183 : decode cX5_carryAll 183 = .ok (.getfield 35, 3) := by decide +kernel
theorem dX5_carryAll_186 : decode cX5_carryAll 186 = .ok (.iload_n 3, 1) := by decide +kernel
theorem dX5_carryAll_187 : decode cX5_carryAll 187 = .ok (.iaload, 1) := by decide +kernel
theorem dX5_carryAll_188 : decode cX5_carryAll 188 = .ok (.invokevirtual 224, 3) := by decide +kernel
theorem dX5_carryAll_191 : decode cX5_carryAll 191 = .ok (.iastore, 1) := by decide +kernel
theorem dX5_carryAll_192 : decode cX5_carryAll 192 = .ok (.aload_n 0, 1) := by decide +kernel
theorem dX5_carryAll_193 : decode cX5_carryAll 193 = .ok (.getfield 38, 3) := by decide +kernel
theorem dX5_carryAll_196 : decode cX5_carryAll 196 = .ok (.iload_n 3, 1) := by decide +kernel
theorem dX5_carryAll_197 : decode cX5_carryAll 197 = .ok (.aload_n 0, 1) := by decide +kernel
theorem dX5_carryAll_198 : decode cX5_carryAll 198 = .ok (.aload_n 0, 1) := by decide +kernel
theorem dX5_carryAll_199 : decode cX5_carryAll 199 = .ok (.getfield 38, 3) := by decide +kernel
theorem dX5_carryAll_202 : decode cX5_carryAll 202 = .ok (.iload_n 3, 1) := by decide +kernel
theorem dX5_carryAll_203 : decode cX5_carryAll 203 = .ok (.iaload, 1) := by decide +kernel
theorem dX5_carryAll_204 : decode cX5_carryAll 204 = .ok (.invokevirtual 224, 3) := by decide +kernel
theorem dX5_carryAll_207 : decode cX5_carryAll 207 = .ok (.iastore, 1) := by decide +kernel
theorem dX5_carryAll_208 : decode cX5_carryAll 208 = .ok (.aload_n 0, 1) := by decide +kernel
theorem dX5_carryAll_209 : decode cX5_carryAll 209 = .ok (.getfield 41, 3) := by decide +kernel
theorem dX5_carryAll_212 : decode cX5_carryAll 212 = .ok (.iload_n 3, 1) := by decide +kernel
theorem dX5_carryAll_213 : decode cX5_carryAll 213 = .ok (.aload_n 0, 1) := by decide +kernel
theorem dX5_carryAll_214 : decode cX5_carryAll 214 = .ok (.aload_n 0, 1) := by decide +kernel
theorem dX5_carryAll_215 : decode cX5_carryAll 215 = .ok (.getfield 41, 3) := by decide +kernel
theorem dX5_carryAll_218 : decode cX5_carryAll 218 = .ok (.iload_n 3, 1) := by decide +kernel
theorem dX5_carryAll_219 : decode cX5_carryAll 219 = .ok (.iaload, 1) := by decide +kernel
theorem dX5_carryAll_220 : decode cX5_carryAll 220 = .ok (.invokevirtual 224, 3) := by decide +kernel
theorem dX5_carryAll_223 : decode cX5_carryAll 223 = .ok (.iastore, 1) := by decide +kernel
theorem dX5_carryAll_224 : decode cX5_carryAll 224 = .ok (.aload_n 0, 1) := by decide +kernel
theorem dX5_carryAll_225 : decode cX5_carryAll 225 = .ok (.getfield 44, 3) := by decide +kernel
theorem dX5_carryAll_228 : decode cX5_carryAll 228 = .ok (.iload_n 3, 1) := by decide +kernel
theorem dX5_carryAll_229 : decode cX5_carryAll 229 = .ok (.aload_n 0, 1) := by decide +kernel
theorem dX5_carryAll_230 : decode cX5_carryAll 230 = .ok (.aload_n 0, 1) := by decide +kernel
theorem dX5_carryAll_231 : decode cX5_carryAll 231 = .ok (.getfield 44, 3) := by decide +kernel
theorem dX5_carryAll_234 : decode cX5_carryAll 234 = .ok (.iload_n 3, 1) := by decide +kernel
theorem dX5_carryAll_235 : decode cX5_carryAll 235 = .ok (.iaload, 1) := by decide +kernel
theorem dX5_carryAll_236 : decode cX5_carryAll 236 = .ok (.invokevirtual 224, 3) := by decide +kernel
theorem dX5_carryAll_239 : decode cX5_carryAll 239 = .ok (.iastore, 1) := by decide +kernel
theorem dX5_carryAll_240 : decode cX5_carryAll 240 = .ok (.iinc 3 1, 3) := by decide +kernel
theorem dX5_carryAll_243 : decode cX5_carryAll 243 = .ok (.goto (-104), 3) := by decide +kernel
theorem dX5_carryAll_246 : decode cX5_carryAll 246 = .ok (.return_, 1) := by decide +kernel
theorem dX5_open_0 : decode cX5_open 0 = .ok (.aload_n 0, 1) := by decide +kernel
theorem dX5_open_1 : decode cX5_open 1 = .ok (.aload_n 0, 1) := by decide +kernel
theorem dX5_open_2 : decode cX5_open 2 = .ok (.getfield 68, 3) := by decide +kernel
theorem dX5_open_5 : decode cX5_open 5 = .ok (.iconst 1, 1) := by decide +kernel
theorem dX5_open_6 : decode cX5_open 6 = .ok (.invokevirtual 227, 3) := by decide +kernel
theorem dX5_open_9 : decode cX5_open 9 = .ok (.return_, 1) := by decide +kernel
theorem dX5_close_0 : decode cX5_close 0 = .ok (.aload_n 0, 1) := by decide +kernel
theorem dX5_close_1 : decode cX5_close 1 = .ok (.aload_n 0, 1) := by decide +kernel
theorem dX5_close_2 : decode cX5_close 2 = .ok (.getfield 68, 3) := by decide +kernel
theorem dX5_close_5 : decode cX5_close 5 = .ok (.iconst 0, 1) := by decide +kernel
theorem dX5_close_6 : decode cX5_close 6 = .ok (.invokevirtual 227, 3) := by decide +kernel
theorem dX5_close_9 : decode cX5_close 9 = .ok (.return_, 1) := by decide +kernel
theorem dX5_image_0 : decode cX5_image 0 = .ok (.aload_n 0, 1) := by decide +kernel
theorem dX5_image_1 : decode cX5_image 1 = .ok (.iconst 0, 1) := by decide +kernel
theorem dX5_image_2 : decode cX5_image 2 = .ok (.putfield 92, 3) := by decide +kernel
theorem dX5_image_5 : decode cX5_image 5 = .ok (.aload_n 0, 1) := by decide +kernel
theorem dX5_image_6 : decode cX5_image 6 = .ok (.iconst 1, 1) := by decide +kernel
theorem dX5_image_7 : decode cX5_image 7 = .ok (.putfield 231, 3) := by decide +kernel
theorem dX5_image_10 : decode cX5_image 10 = .ok (.aload_n 0, 1) := by decide +kernel
theorem dX5_image_11 : decode cX5_image 11 = .ok (.aload_n 0, 1) := by decide +kernel
theorem dX5_image_12 : decode cX5_image 12 = .ok (.getfield 71, 3) := by decide +kernel
theorem dX5_image_15 : decode cX5_image 15 = .ok (.iconst 1, 1) := by decide +kernel
theorem dX5_image_16 : decode cX5_image 16 = .ok (.invokevirtual 227, 3) := by decide +kernel
theorem dX5_image_19 : decode cX5_image 19 = .ok (.aload_n 0, 1) := by decide +kernel
theorem dX5_image_20 : decode cX5_image 20 = .ok (.getfield 120, 3) := by decide +kernel
theorem dX5_image_23 : decode cX5_image 23 = .ok (.ireturn, 1) := by decide +kernel
theorem dX5_restore_0 : decode cX5_restore 0 = .ok (.aload_n 0, 1) := by decide +kernel
theorem dX5_restore_1 : decode cX5_restore 1 = .ok (.iconst 0, 1) := by decide +kernel
theorem dX5_restore_2 : decode cX5_restore 2 = .ok (.putfield 92, 3) := by decide +kernel
theorem dX5_restore_5 : decode cX5_restore 5 = .ok (.aload_n 0, 1) := by decide +kernel
theorem dX5_restore_6 : decode cX5_restore 6 = .ok (.getfield 231, 3) := by decide +kernel
theorem dX5_restore_9 : decode cX5_restore 9 = .ok (.ifCond .ne 10, 3) := by decide +kernel
theorem dX5_restore_12 : decode cX5_restore 12 = .ok (.aload_n 0, 1) := by decide +kernel
theorem dX5_restore_13 : decode cX5_restore 13 = .ok (.bipush (-3), 2) := by decide +kernel
theorem dX5_restore_15 : decode cX5_restore 15 = .ok (.invokevirtual 139, 3) := by decide +kernel
theorem dX5_restore_18 : decode cX5_restore 18 = .ok (.ireturn, 1) := by decide +kernel
theorem dX5_restore_19 : decode cX5_restore 19 = .ok (.aload_n 0, 1) := by decide +kernel
theorem dX5_restore_20 : decode cX5_restore 20 = .ok (.aload_n 0, 1) := by decide +kernel
theorem dX5_restore_21 : decode cX5_restore 21 = .ok (.getfield 71, 3) := by decide +kernel
theorem dX5_restore_24 : decode cX5_restore 24 = .ok (.iconst 0, 1) := by decide +kernel
theorem dX5_restore_25 : decode cX5_restore 25 = .ok (.invokevirtual 227, 3) := by decide +kernel
theorem dX5_restore_28 : decode cX5_restore 28 = .ok (.aload_n 0, 1) := by decide +kernel
theorem dX5_restore_29 : decode cX5_restore 29 = .ok (.iconst 0, 1) := by decide +kernel
theorem dX5_restore_30 : decode cX5_restore 30 = .ok (.putfield 212, 3) := by decide +kernel
theorem dX5_restore_33 : decode cX5_restore 33 = .ok (.aload_n 0, 1) := by decide +kernel
theorem dX5_restore_34 : decode cX5_restore 34 = .ok (.getfield 120, 3) := by decide +kernel
theorem dX5_restore_37 : decode cX5_restore 37 = .ok (.ireturn, 1) := by decide +kernel
theorem dX5_keepTurn_0 : decode cX5_keepTurn 0 = .ok (.aload_n 0, 1) := by decide +kernel
theorem dX5_keepTurn_1 : decode cX5_keepTurn 1 = .ok (.getfield 212, 3) := by decide +kernel
theorem dX5_keepTurn_4 : decode cX5_keepTurn 4 = .ok (.bipush 8, 2) := by decide +kernel
theorem dX5_keepTurn_6 : decode cX5_keepTurn 6 = .ok (.if_icmp .ne 44, 3) := by decide +kernel
theorem dX5_keepTurn_9 : decode cX5_keepTurn 9 = .ok (.bipush 83, 2) := by decide +kernel
theorem dX5_keepTurn_11 : decode cX5_keepTurn 11 = .ok (.istore_n 1, 1) := by decide +kernel
theorem dX5_keepTurn_12 : decode cX5_keepTurn 12 = .ok (.iload_n 1, 1) := by decide +kernel
theorem dX5_keepTurn_13 : decode cX5_keepTurn 13 = .ok (.sipush 664, 3) := by decide +kernel
theorem dX5_keepTurn_16 : decode cX5_keepTurn 16 = .ok (.if_icmp .ge 24, 3) := by decide +kernel
theorem dX5_keepTurn_19 : decode cX5_keepTurn 19 = .ok (.aload_n 0, 1) := by decide +kernel
theorem dX5_keepTurn_20 : decode cX5_keepTurn 20 = .ok (.getfield 74, 3) := by decide +kernel
theorem dX5_keepTurn_23 : decode cX5_keepTurn 23 = .ok (.iload_n 1, 1) := by decide +kernel
theorem dX5_keepTurn_24 : decode cX5_keepTurn 24 = .ok (.bipush 83, 2) := by decide +kernel
theorem dX5_keepTurn_26 : decode cX5_keepTurn 26 = .ok (.isub, 1) := by decide +kernel
theorem dX5_keepTurn_27 : decode cX5_keepTurn 27 = .ok (.aload_n 0, 1) := by decide +kernel
theorem dX5_keepTurn_28 : decode cX5_keepTurn 28 = .ok (.getfield 74, 3) := by decide +kernel
theorem dX5_keepTurn_31 : decode cX5_keepTurn 31 = .ok (.iload_n 1, 1) := by decide +kernel
theorem dX5_keepTurn_32 : decode cX5_keepTurn 32 = .ok (.iaload, 1) := by decide +kernel
theorem dX5_keepTurn_33 : decode cX5_keepTurn 33 = .ok (.iastore, 1) := by decide +kernel
theorem dX5_keepTurn_34 : decode cX5_keepTurn 34 = .ok (.iinc 1 1, 3) := by decide +kernel
theorem dX5_keepTurn_37 : decode cX5_keepTurn 37 = .ok (.goto (-25), 3) := by decide +kernel
theorem dX5_keepTurn_40 : decode cX5_keepTurn 40 = .ok (.aload_n 0, 1) := by decide +kernel
theorem dX5_keepTurn_41 : decode cX5_keepTurn 41 = .ok (.dup, 1) := by decide +kernel
theorem dX5_keepTurn_42 : decode cX5_keepTurn 42 = .ok (.getfield 212, 3) := by decide +kernel
theorem dX5_keepTurn_45 : decode cX5_keepTurn 45 = .ok (.iconst 1, 1) := by decide +kernel
theorem dX5_keepTurn_46 : decode cX5_keepTurn 46 = .ok (.isub, 1) := by decide +kernel
theorem dX5_keepTurn_47 : decode cX5_keepTurn 47 = .ok (.putfield 212, 3) := by decide +kernel
theorem dX5_keepTurn_50 : decode cX5_keepTurn 50 = .ok (.aload_n 0, 1) := by decide +kernel
theorem dX5_keepTurn_51 : decode cX5_keepTurn 51 = .ok (.aload_n 0, 1) := by decide +kernel
theorem dX5_keepTurn_52 : decode cX5_keepTurn 52 = .ok (.getfield 77, 3) := by decide +kernel
theorem dX5_keepTurn_55 : decode cX5_keepTurn 55 = .ok (.iconst 1, 1) := by decide +kernel
theorem dX5_keepTurn_56 : decode cX5_keepTurn 56 = .ok (.invokevirtual 227, 3) := by decide +kernel
theorem dX5_keepTurn_59 : decode cX5_keepTurn 59 = .ok (.iconst 0, 1) := by decide +kernel
theorem dX5_keepTurn_60 : decode cX5_keepTurn 60 = .ok (.istore_n 1, 1) := by decide +kernel
theorem dX5_keepTurn_61 : decode cX5_keepTurn 61 = .ok (.iload_n 1, 1) := by decide +kernel
theorem dX5_keepTurn_62 : decode cX5_keepTurn 62 = .ok (.bipush 83, 2) := by decide +kernel
theorem dX5_keepTurn_64 : decode cX5_keepTurn 64 = .ok (.if_icmp .ge 29, 3) := by decide +kernel
theorem dX5_keepTurn_67 : decode cX5_keepTurn 67 = .ok (.aload_n 0, 1) := by decide +kernel
theorem dX5_keepTurn_68 : decode cX5_keepTurn 68 = .ok (.getfield 74, 3) := by decide +kernel
theorem dX5_keepTurn_71 : decode cX5_keepTurn 71 = .ok (.bipush 83, 2) := by decide +kernel
theorem dX5_keepTurn_73 : decode cX5_keepTurn 73 = .ok (.aload_n 0, 1) := by decide +kernel
theorem dX5_keepTurn_74 : decode cX5_keepTurn 74 = .ok (.getfield 212, 3) := by decide +kernel
theorem dX5_keepTurn_77 : decode cX5_keepTurn 77 = .ok (.imul, 1) := by decide +kernel
theorem dX5_keepTurn_78 : decode cX5_keepTurn 78 = .ok (.iload_n 1, 1) := by decide +kernel
theorem dX5_keepTurn_79 : decode cX5_keepTurn 79 = .ok (.iadd, 1) := by decide +kernel
theorem dX5_keepTurn_80 : decode cX5_keepTurn 80 = .ok (.aload_n 0, 1) := by decide +kernel
theorem dX5_keepTurn_81 : decode cX5_keepTurn 81 = .ok (.getfield 77, 3) := by decide +kernel
theorem dX5_keepTurn_84 : decode cX5_keepTurn 84 = .ok (.iload_n 1, 1) := by decide +kernel
theorem dX5_keepTurn_85 : decode cX5_keepTurn 85 = .ok (.iaload, 1) := by decide +kernel
theorem dX5_keepTurn_86 : decode cX5_keepTurn 86 = .ok (.iastore, 1) := by decide +kernel
theorem dX5_keepTurn_87 : decode cX5_keepTurn 87 = .ok (.iinc 1 1, 3) := by decide +kernel
theorem dX5_keepTurn_90 : decode cX5_keepTurn 90 = .ok (.goto (-29), 3) := by decide +kernel
theorem dX5_keepTurn_93 : decode cX5_keepTurn 93 = .ok (.aload_n 0, 1) := by decide +kernel
theorem dX5_keepTurn_94 : decode cX5_keepTurn 94 = .ok (.dup, 1) := by decide +kernel
theorem dX5_keepTurn_95 : decode cX5_keepTurn 95 = .ok (.getfield 212, 3) := by decide +kernel
theorem dX5_keepTurn_98 : decode cX5_keepTurn 98 = .ok (.iconst 1, 1) := by decide +kernel
theorem dX5_keepTurn_99 : decode cX5_keepTurn 99 = .ok (.iadd, 1) := by decide +kernel
theorem dX5_keepTurn_100 : decode cX5_keepTurn 100 = .ok (.putfield 212, 3) := by decide +kernel
theorem dX5_keepTurn_103 : decode cX5_keepTurn 103 = .ok (.return_, 1) := by decide +kernel
theorem dX5_back_0 : decode cX5_back 0 = .ok (.aload_n 0, 1) := by decide +kernel
theorem dX5_back_1 : decode cX5_back 1 = .ok (.iconst 0, 1) := by decide +kernel
theorem dX5_back_2 : decode cX5_back 2 = .ok (.putfield 92, 3) := by decide +kernel
theorem dX5_back_5 : decode cX5_back 5 = .ok (.aload_n 0, 1) := by decide +kernel
theorem dX5_back_6 : decode cX5_back 6 = .ok (.getfield 212, 3) := by decide +kernel
theorem dX5_back_9 : decode cX5_back 9 = .ok (.ifCond .ne 10, 3) := by decide +kernel
theorem dX5_back_12 : decode cX5_back 12 = .ok (.aload_n 0, 1) := by decide +kernel
theorem dX5_back_13 : decode cX5_back 13 = .ok (.bipush (-3), 2) := by decide +kernel
theorem dX5_back_15 : decode cX5_back 15 = .ok (.invokevirtual 139, 3) := by decide +kernel
theorem dX5_back_18 : decode cX5_back 18 = .ok (.ireturn, 1) := by decide +kernel
theorem dX5_back_19 : decode cX5_back 19 = .ok (.aload_n 0, 1) := by decide +kernel
theorem dX5_back_20 : decode cX5_back 20 = .ok (.dup, 1) := by decide +kernel
theorem dX5_back_21 : decode cX5_back 21 = .ok (.getfield 212, 3) := by decide +kernel
theorem dX5_back_24 : decode cX5_back 24 = .ok (.iconst 1, 1) := by decide +kernel
theorem dX5_back_25 : decode cX5_back 25 = .ok (.isub, 1) := by decide +kernel
theorem dX5_back_26 : decode cX5_back 26 = .ok (.putfield 212, 3) := by decide +kernel
theorem dX5_back_29 : decode cX5_back 29 = .ok (.iconst 0, 1) := by decide +kernel
theorem dX5_back_30 : decode cX5_back 30 = .ok (.istore_n 1, 1) := by decide +kernel
theorem dX5_back_31 : decode cX5_back 31 = .ok (.iload_n 1, 1) := by decide +kernel
theorem dX5_back_32 : decode cX5_back 32 = .ok (.bipush 83, 2) := by decide +kernel
theorem dX5_back_34 : decode cX5_back 34 = .ok (.if_icmp .ge 29, 3) := by decide +kernel
theorem dX5_back_37 : decode cX5_back 37 = .ok (.aload_n 0, 1) := by decide +kernel
theorem dX5_back_38 : decode cX5_back 38 = .ok (.getfield 77, 3) := by decide +kernel
theorem dX5_back_41 : decode cX5_back 41 = .ok (.iload_n 1, 1) := by decide +kernel
theorem dX5_back_42 : decode cX5_back 42 = .ok (.aload_n 0, 1) := by decide +kernel
theorem dX5_back_43 : decode cX5_back 43 = .ok (.getfield 74, 3) := by decide +kernel
theorem dX5_back_46 : decode cX5_back 46 = .ok (.bipush 83, 2) := by decide +kernel
theorem dX5_back_48 : decode cX5_back 48 = .ok (.aload_n 0, 1) := by decide +kernel
theorem dX5_back_49 : decode cX5_back 49 = .ok (.getfield 212, 3) := by decide +kernel
theorem dX5_back_52 : decode cX5_back 52 = .ok (.imul, 1) := by decide +kernel
theorem dX5_back_53 : decode cX5_back 53 = .ok (.iload_n 1, 1) := by decide +kernel
theorem dX5_back_54 : decode cX5_back 54 = .ok (.iadd, 1) := by decide +kernel
theorem dX5_back_55 : decode cX5_back 55 = .ok (.iaload, 1) := by decide +kernel
theorem dX5_back_56 : decode cX5_back 56 = .ok (.iastore, 1) := by decide +kernel
theorem dX5_back_57 : decode cX5_back 57 = .ok (.iinc 1 1, 3) := by decide +kernel
theorem dX5_back_60 : decode cX5_back 60 = .ok (.goto (-29), 3) := by decide +kernel
theorem dX5_back_63 : decode cX5_back 63 = .ok (.aload_n 0, 1) := by decide +kernel
theorem dX5_back_64 : decode cX5_back 64 = .ok (.aload_n 0, 1) := by decide +kernel
theorem dX5_back_65 : decode cX5_back 65 = .ok (.getfield 77, 3) := by decide +kernel
theorem dX5_back_68 : decode cX5_back 68 = .ok (.iconst 0, 1) := by decide +kernel
theorem dX5_back_69 : decode cX5_back 69 = .ok (.invokevirtual 227, 3) := by decide +kernel
theorem dX5_back_72 : decode cX5_back 72 = .ok (.aload_n 0, 1) := by decide +kernel
theorem dX5_back_73 : decode cX5_back 73 = .ok (.getfield 212, 3) := by decide +kernel
theorem dX5_back_76 : decode cX5_back 76 = .ok (.ireturn, 1) := by decide +kernel
theorem dX5_yard_0 : decode cX5_yard 0 = .ok (.aload_n 0, 1) := by decide +kernel
theorem dX5_yard_1 : decode cX5_yard 1 = .ok (.iconst 0, 1) := by decide +kernel
theorem dX5_yard_2 : decode cX5_yard 2 = .ok (.putfield 92, 3) := by decide +kernel
theorem dX5_yard_5 : decode cX5_yard 5 = .ok (.aload_n 0, 1) := by decide +kernel
theorem dX5_yard_6 : decode cX5_yard 6 = .ok (.iload_n 1, 1) := by decide +kernel
theorem dX5_yard_7 : decode cX5_yard 7 = .ok (.invokevirtual 181, 3) := by decide +kernel
theorem dX5_yard_10 : decode cX5_yard 10 = .ok (.ifCond .eq 15, 3) := by decide +kernel
theorem dX5_yard_13 : decode cX5_yard 13 = .ok (.iload_n 2, 1) := by decide +kernel
theorem dX5_yard_14 : decode cX5_yard 14 = .ok (.i2l, 1) := by decide +kernel
theorem dX5_yard_15 : decode cX5_yard 15 = .ok (.lconst 0, 1) := by decide +kernel
theorem dX5_yard_16 : decode cX5_yard 16 = .ok (.ldc2_w 234, 3) := by decide +kernel
theorem dX5_yard_19 : decode cX5_yard 19 = .ok (.invokestatic 95, 3) := by decide +kernel
theorem dX5_yard_22 : decode cX5_yard 22 = .ok (.ifCond .ne 22, 3) := by decide +kernel
theorem dX5_yard_25 : decode cX5_yard 25 = .ok (.aload_n 0, 1) := by decide +kernel
theorem dX5_yard_26 : decode cX5_yard 26 = .ok (.aload_n 0, 1) := by decide +kernel
theorem dX5_yard_27 : decode cX5_yard 27 = .ok (.iload_n 1, 1) := by decide +kernel
theorem dX5_yard_28 : decode cX5_yard 28 = .ok (.invokevirtual 181, 3) := by decide +kernel
theorem dX5_yard_31 : decode cX5_yard 31 = .ok (.ifCond .eq 8, 3) := by decide +kernel
theorem dX5_yard_34 : decode cX5_yard 34 = .ok (.bipush (-2), 2) := by decide +kernel
theorem dX5_yard_36 : decode cX5_yard 36 = .ok (.goto 4, 3) := by decide +kernel
theorem dX5_yard_39 : decode cX5_yard 39 = .ok (.iconst (-1), 1) := by decide +kernel
theorem dX5_yard_40 : decode cX5_yard 40 = .ok (.invokevirtual 139, 3) := by decide +kernel
theorem dX5_yard_43 : decode cX5_yard 43 = .ok (.ireturn, 1) := by decide +kernel
theorem dX5_yard_44 : decode cX5_yard 44 = .ok (.iload_n 2, 1) := by decide +kernel
theorem dX5_yard_45 : decode cX5_yard 45 = .ok (.tableswitch 68 0 4 #[35, 42, 49, 56, 62], 35) := by decide +kernel
theorem dX5_yard_80 : decode cX5_yard 80 = .ok (.aload_n 0, 1) := by decide +kernel
theorem dX5_yard_81 : decode cX5_yard 81 = .ok (.getfield 13, 3) := by decide +kernel
theorem dX5_yard_84 : decode cX5_yard 84 = .ok (.iload_n 1, 1) := by decide +kernel
theorem dX5_yard_85 : decode cX5_yard 85 = .ok (.iaload, 1) := by decide +kernel
theorem dX5_yard_86 : decode cX5_yard 86 = .ok (.ireturn, 1) := by decide +kernel
theorem dX5_yard_87 : decode cX5_yard 87 = .ok (.aload_n 0, 1) := by decide +kernel
theorem dX5_yard_88 : decode cX5_yard 88 = .ok (.getfield 17, 3) := by decide +kernel
theorem dX5_yard_91 : decode cX5_yard 91 = .ok (.iload_n 1, 1) := by decide +kernel
theorem dX5_yard_92 : decode cX5_yard 92 = .ok (.iaload, 1) := by decide +kernel
theorem dX5_yard_93 : decode cX5_yard 93 = .ok (.ireturn, 1) := by decide +kernel
theorem dX5_yard_94 : decode cX5_yard 94 = .ok (.aload_n 0, 1) := by decide +kernel
theorem dX5_yard_95 : decode cX5_yard 95 = .ok (.getfield 20, 3) := by decide +kernel
theorem dX5_yard_98 : decode cX5_yard 98 = .ok (.iload_n 1, 1) := by decide +kernel
theorem dX5_yard_99 : decode cX5_yard 99 = .ok (.iaload, 1) := by decide +kernel
theorem dX5_yard_100 : decode cX5_yard 100 = .ok (.ireturn, 1) := by decide +kernel
theorem dX5_yard_101 : decode cX5_yard 101 = .ok (.aload_n 0, 1) := by decide +kernel
theorem dX5_yard_102 : decode cX5_yard 102 = .ok (.iload_n 1, 1) := by decide +kernel
theorem dX5_yard_103 : decode cX5_yard 103 = .ok (.invokevirtual 123, 3) := by decide +kernel
theorem dX5_yard_106 : decode cX5_yard 106 = .ok (.ireturn, 1) := by decide +kernel
theorem dX5_yard_107 : decode cX5_yard 107 = .ok (.aload_n 0, 1) := by decide +kernel
theorem dX5_yard_108 : decode cX5_yard 108 = .ok (.iload_n 1, 1) := by decide +kernel
theorem dX5_yard_109 : decode cX5_yard 109 = .ok (.invokevirtual 126, 3) := by decide +kernel
theorem dX5_yard_112 : decode cX5_yard 112 = .ok (.ireturn, 1) := by decide +kernel
theorem dX5_yard_113 : decode cX5_yard 113 = .ok (.aload_n 0, 1) := by decide +kernel
theorem dX5_yard_114 : decode cX5_yard 114 = .ok (.iload_n 1, 1) := by decide +kernel
theorem dX5_yard_115 : decode cX5_yard 115 = .ok (.bipush 20, 2) := by decide +kernel
theorem dX5_yard_117 : decode cX5_yard 117 = .ok (.invokevirtual 106, 3) := by decide +kernel
theorem dX5_yard_120 : decode cX5_yard 120 = .ok (.ireturn, 1) := by decide +kernel
theorem dX5_turn_0 : decode cX5_turn 0 = .ok (.aload_n 0, 1) := by decide +kernel
theorem dX5_turn_1 : decode cX5_turn 1 = .ok (.iconst 0, 1) := by decide +kernel
theorem dX5_turn_2 : decode cX5_turn 2 = .ok (.putfield 92, 3) := by decide +kernel
theorem dX5_turn_5 : decode cX5_turn 5 = .ok (.aload_n 0, 1) := by decide +kernel
theorem dX5_turn_6 : decode cX5_turn 6 = .ok (.iload_n 1, 1) := by decide +kernel
theorem dX5_turn_7 : decode cX5_turn 7 = .ok (.invokevirtual 181, 3) := by decide +kernel
theorem dX5_turn_10 : decode cX5_turn 10 = .ok (.ifCond .ne 7, 3) := by decide +kernel
theorem dX5_turn_13 : decode cX5_turn 13 = .ok (.iconst (-1), 1) := by decide +kernel
theorem dX5_turn_14 : decode cX5_turn 14 = .ok (.goto 27, 3) := by decide +kernel
theorem dX5_turn_17 : decode cX5_turn 17 = .ok (.iload_n 2, 1) := by decide +kernel
theorem dX5_turn_18 : decode cX5_turn 18 = .ok (.i2l, 1) := by decide +kernel
theorem dX5_turn_19 : decode cX5_turn 19 = .ok (.lconst 0, 1) := by decide +kernel
theorem dX5_turn_20 : decode cX5_turn 20 = .ok (.ldc2_w 234, 3) := by decide +kernel
theorem dX5_turn_23 : decode cX5_turn 23 = .ok (.invokestatic 95, 3) := by decide +kernel
theorem dX5_turn_26 : decode cX5_turn 26 = .ok (.ifCond .ne 8, 3) := by decide +kernel
theorem dX5_turn_29 : decode cX5_turn 29 = .ok (.bipush (-2), 2) := by decide +kernel
theorem dX5_turn_31 : decode cX5_turn 31 = .ok (.goto 10, 3) := by decide +kernel
theorem dX5_turn_34 : decode cX5_turn 34 = .ok (.iload_n 3, 1) := by decide +kernel
theorem dX5_turn_35 : decode cX5_turn 35 = .ok (.iconst 0, 1) := by decide +kernel
theorem dX5_turn_36 : decode cX5_turn 36 = .ok (.bipush 9, 2) := by decide +kernel
theorem dX5_turn_38 : decode cX5_turn 38 = .ok (.invokestatic 236, 3) := by decide +kernel
theorem dX5_turn_41 : decode cX5_turn 41 = .ok (.istore 4, 2) := by decide +kernel
theorem dX5_turn_43 : decode cX5_turn 43 = .ok (.iload 4, 2) := by decide +kernel
theorem dX5_turn_45 : decode cX5_turn 45 = .ok (.ifCond .ge 10, 3) := by decide +kernel
theorem dX5_turn_48 : decode cX5_turn 48 = .ok (.aload_n 0, 1) := by decide +kernel
theorem dX5_turn_49 : decode cX5_turn 49 = .ok (.iload 4, 2) := by decide +kernel
theorem dX5_turn_51 : decode cX5_turn 51 = .ok (.invokevirtual 139, 3) := by decide +kernel
theorem dX5_turn_54 : decode cX5_turn 54 = .ok (.ireturn, 1) := by decide +kernel
theorem dX5_turn_55 : decode cX5_turn 55 = .ok (.aload_n 0, 1) := by decide +kernel
theorem dX5_turn_56 : decode cX5_turn 56 = .ok (.invokevirtual 240, 3) := by decide +kernel
theorem dX5_turn_59 : decode cX5_turn 59 = .ok (.bipush 10, 2) := by decide +kernel
theorem dX5_turn_61 : decode cX5_turn 61 = .ok (.aload_n 0, 1) := by decide +kernel
theorem dX5_turn_62 : decode cX5_turn 62 = .ok (.getfield 13, 3) := by decide +kernel
theorem dX5_turn_65 : decode cX5_turn 65 = .ok (.iload_n 1, 1) := by decide +kernel
theorem dX5_turn_66 : decode cX5_turn 66 = .ok (.iaload, 1) := by decide +kernel
theorem dX5_turn_67 : decode cX5_turn 67 = .ok (.imul, 1) := by decide +kernel
theorem dX5_turn_68 : decode cX5_turn 68 = .ok (.aload_n 0, 1) := by decide +kernel
theorem dX5_turn_69 : decode cX5_turn 69 = .ok (.getfield 17, 3) := by decide +kernel
theorem dX5_turn_72 : decode cX5_turn 72 = .ok (.iload_n 1, 1) := by decide +kernel
theorem dX5_turn_73 : decode cX5_turn 73 = .ok (.iaload, 1) := by decide +kernel
theorem dX5_turn_74 : decode cX5_turn 74 = .ok (.iadd, 1) := by decide +kernel
theorem dX5_turn_75 : decode cX5_turn 75 = .ok (.istore 5, 2) := by decide +kernel
theorem dX5_turn_77 : decode cX5_turn 77 = .ok (.aload_n 0, 1) := by decide +kernel
theorem dX5_turn_78 : decode cX5_turn 78 = .ok (.getfield 13, 3) := by decide +kernel
theorem dX5_turn_81 : decode cX5_turn 81 = .ok (.iload_n 1, 1) := by decide +kernel
theorem dX5_turn_82 : decode cX5_turn 82 = .ok (.iload_n 2, 1) := by decide +kernel
theorem dX5_turn_83 : decode cX5_turn 83 = .ok (.iastore, 1) := by decide +kernel
theorem dX5_turn_84 : decode cX5_turn 84 = .ok (.aload_n 0, 1) := by decide +kernel
theorem dX5_turn_85 : decode cX5_turn 85 = .ok (.getfield 17, 3) := by decide +kernel
theorem dX5_turn_88 : decode cX5_turn 88 = .ok (.iload_n 1, 1) := by decide +kernel
theorem dX5_turn_89 : decode cX5_turn 89 = .ok (.iload_n 3, 1) := by decide +kernel
theorem dX5_turn_90 : decode cX5_turn 90 = .ok (.iastore, 1) := by decide +kernel
theorem dX5_turn_91 : decode cX5_turn 91 = .ok (.iload 5, 2) := by decide +kernel
theorem dX5_turn_93 : decode cX5_turn 93 = .ok (.ireturn, 1) := by decide +kernel
theorem dX5_frost_0 : decode cX5_frost 0 = .ok (.aload_n 0, 1) := by decide +kernel
theorem dX5_frost_1 : decode cX5_frost 1 = .ok (.iconst 0, 1) := by decide +kernel
theorem dX5_frost_2 : decode cX5_frost 2 = .ok (.putfield 92, 3) := by decide +kernel
theorem dX5_frost_5 : decode cX5_frost 5 = .ok (.aload_n 0, 1) := by decide +kernel
theorem dX5_frost_6 : decode cX5_frost 6 = .ok (.iload_n 1, 1) := by decide +kernel
theorem dX5_frost_7 : decode cX5_frost 7 = .ok (.invokevirtual 181, 3) := by decide +kernel
theorem dX5_frost_10 : decode cX5_frost 10 = .ok (.ifCond .eq 13, 3) := by decide +kernel
theorem dX5_frost_13 : decode cX5_frost 13 = .ok (.iload_n 2, 1) := by decide +kernel
theorem dX5_frost_14 : decode cX5_frost 14 = .ok (.iconst 0, 1) := by decide +kernel
theorem dX5_frost_15 : decode cX5_frost 15 = .ok (.bipush 99, 2) := by decide +kernel
theorem dX5_frost_17 : decode cX5_frost 17 = .ok (.invokestatic 236, 3) := by decide +kernel
theorem dX5_frost_20 : decode cX5_frost 20 = .ok (.goto 4, 3) := by decide +kernel
theorem dX5_frost_23 : decode cX5_frost 23 = .ok (.iconst (-1), 1) := by decide +kernel
theorem dX5_frost_24 : decode cX5_frost 24 = .ok (.istore_n 3, 1) := by decide +kernel
theorem dX5_frost_25 : decode cX5_frost 25 = .ok (.iload_n 3, 1) := by decide +kernel
theorem dX5_frost_26 : decode cX5_frost 26 = .ok (.ifCond .ge 9, 3) := by decide +kernel
theorem dX5_frost_29 : decode cX5_frost 29 = .ok (.aload_n 0, 1) := by decide +kernel
theorem dX5_frost_30 : decode cX5_frost 30 = .ok (.iload_n 3, 1) := by decide +kernel
theorem dX5_frost_31 : decode cX5_frost 31 = .ok (.invokevirtual 139, 3) := by decide +kernel
theorem dX5_frost_34 : decode cX5_frost 34 = .ok (.ireturn, 1) := by decide +kernel
theorem dX5_frost_35 : decode cX5_frost 35 = .ok (.aload_n 0, 1) := by decide +kernel
theorem dX5_frost_36 : decode cX5_frost 36 = .ok (.invokevirtual 240, 3) := by decide +kernel
theorem dX5_frost_39 : decode cX5_frost 39 = .ok (.aload_n 0, 1) := by decide +kernel
theorem dX5_frost_40 : decode cX5_frost 40 = .ok (.getfield 20, 3) := by decide +kernel
theorem dX5_frost_43 : decode cX5_frost 43 = .ok (.iload_n 1, 1) := by decide +kernel
theorem dX5_frost_44 : decode cX5_frost 44 = .ok (.iaload, 1) := by decide +kernel
theorem dX5_frost_45 : decode cX5_frost 45 = .ok (.istore 4, 2) := by decide +kernel
theorem dX5_frost_47 : decode cX5_frost 47 = .ok (.aload_n 0, 1) := by decide +kernel
theorem dX5_frost_48 : decode cX5_frost 48 = .ok (.getfield 20, 3) := by decide +kernel
theorem dX5_frost_51 : decode cX5_frost 51 = .ok (.iload_n 1, 1) := by decide +kernel
theorem dX5_frost_52 : decode cX5_frost 52 = .ok (.iload_n 2, 1) := by decide +kernel
theorem dX5_frost_53 : decode cX5_frost 53 = .ok (.iastore, 1) := by decide +kernel
theorem dX5_frost_54 : decode cX5_frost 54 = .ok (.iload 4, 2) := by decide +kernel
theorem dX5_frost_56 : decode cX5_frost 56 = .ok (.ireturn, 1) := by decide +kernel
theorem dX5_weather_0 : decode cX5_weather 0 = .ok (.aload_n 0, 1) := by decide +kernel
theorem dX5_weather_1 : decode cX5_weather 1 = .ok (.iconst 0, 1) := by decide +kernel
theorem dX5_weather_2 : decode cX5_weather 2 = .ok (.putfield 92, 3) := by decide +kernel
theorem dX5_weather_5 : decode cX5_weather 5 = .ok (.iload_n 1, 1) := by decide +kernel
theorem dX5_weather_6 : decode cX5_weather 6 = .ok (.i2l, 1) := by decide +kernel
theorem dX5_weather_7 : decode cX5_weather 7 = .ok (.lconst 0, 1) := by decide +kernel
theorem dX5_weather_8 : decode cX5_weather 8 = .ok (.lconst 1, 1) := by decide +kernel
theorem dX5_weather_9 : decode cX5_weather 9 = .ok (.invokestatic 95, 3) := by decide +kernel
theorem dX5_weather_12 : decode cX5_weather 12 = .ok (.ifCond .eq 13, 3) := by decide +kernel
theorem dX5_weather_15 : decode cX5_weather 15 = .ok (.iload_n 2, 1) := by decide +kernel
theorem dX5_weather_16 : decode cX5_weather 16 = .ok (.iconst 0, 1) := by decide +kernel
theorem dX5_weather_17 : decode cX5_weather 17 = .ok (.bipush 9, 2) := by decide +kernel
theorem dX5_weather_19 : decode cX5_weather 19 = .ok (.invokestatic 236, 3) := by decide +kernel
theorem dX5_weather_22 : decode cX5_weather 22 = .ok (.goto 5, 3) := by decide +kernel
theorem dX5_weather_25 : decode cX5_weather 25 = .ok (.bipush (-2), 2) := by decide +kernel
theorem dX5_weather_27 : decode cX5_weather 27 = .ok (.istore_n 3, 1) := by decide +kernel
theorem dX5_weather_28 : decode cX5_weather 28 = .ok (.iload_n 3, 1) := by decide +kernel
theorem dX5_weather_29 : decode cX5_weather 29 = .ok (.ifCond .ge 9, 3) := by decide +kernel
theorem dX5_weather_32 : decode cX5_weather 32 = .ok (.aload_n 0, 1) := by decide +kernel
theorem dX5_weather_33 : decode cX5_weather 33 = .ok (.iload_n 3, 1) := by decide +kernel
theorem dX5_weather_34 : decode cX5_weather 34 = .ok (.invokevirtual 139, 3) := by decide +kernel
theorem dX5_weather_37 : decode cX5_weather 37 = .ok (.ireturn, 1) := by decide +kernel
theorem dX5_weather_38 : decode cX5_weather 38 = .ok (.aload_n 0, 1) := by decide +kernel
theorem dX5_weather_39 : decode cX5_weather 39 = .ok (.invokevirtual 240, 3) := by decide +kernel
theorem dX5_weather_42 : decode cX5_weather 42 = .ok (.iload_n 1, 1) := by decide +kernel
theorem dX5_weather_43 : decode cX5_weather 43 = .ok (.ifCond .ne 10, 3) := by decide +kernel
theorem dX5_weather_46 : decode cX5_weather 46 = .ok (.aload_n 0, 1) := by decide +kernel
theorem dX5_weather_47 : decode cX5_weather 47 = .ok (.getfield 23, 3) := by decide +kernel
theorem dX5_weather_50 : decode cX5_weather 50 = .ok (.goto 7, 3) := by decide +kernel
theorem dX5_weather_53 : decode cX5_weather 53 = .ok (.aload_n 0, 1) := by decide +kernel
theorem dX5_weather_54 : decode cX5_weather 54 = .ok (.getfield 26, 3) := by decide +kernel
theorem dX5_weather_57 : decode cX5_weather 57 = .ok (.istore 4, 2) := by decide +kernel
theorem dX5_weather_59 : decode cX5_weather 59 = .ok (.aload_n 0, 1) := by decide +kernel
theorem dX5_weather_60 : decode cX5_weather 60 = .ok (.iload_n 1, 1) := by decide +kernel
theorem dX5_weather_61 : decode cX5_weather 61 = .ok (.ifCond .ne 7, 3) := by decide +kernel
theorem dX5_weather_64 : decode cX5_weather 64 = .ok (.iload_n 2, 1) := by decide +kernel
theorem dX5_weather_65 : decode cX5_weather 65 = .ok (.goto 7, 3) := by decide +kernel
theorem dX5_weather_68 : decode cX5_weather 68 = .ok (.aload_n 0, 1) := by decide +kernel
theorem dX5_weather_69 : decode cX5_weather 69 = .ok (.getfield 23, 3) := by decide +kernel
theorem dX5_weather_72 : decode cX5_weather 72 = .ok (.putfield 23, 3) := by decide +kernel
theorem dX5_weather_75 : decode cX5_weather 75 = .ok (.aload_n 0, 1) := by decide +kernel
theorem dX5_weather_76 : decode cX5_weather 76 = .ok (.iload_n 1, 1) := by decide +kernel
theorem dX5_weather_77 : decode cX5_weather 77 = .ok (.iconst 1, 1) := by decide +kernel
theorem dX5_weather_78 : decode cX5_weather 78 = .ok (.if_icmp .ne 7, 3) := by decide +kernel
theorem dX5_weather_81 : decode cX5_weather 81 = .ok (.iload_n 2, 1) := by decide +kernel
theorem dX5_weather_82 : decode cX5_weather 82 = .ok (.goto 7, 3) := by decide +kernel
theorem dX5_weather_85 : decode cX5_weather 85 = .ok (.aload_n 0, 1) := by decide +kernel
theorem dX5_weather_86 : decode cX5_weather 86 = .ok (.getfield 26, 3) := by decide +kernel
theorem dX5_weather_89 : decode cX5_weather 89 = .ok (.putfield 26, 3) := by decide +kernel
theorem dX5_weather_92 : decode cX5_weather 92 = .ok (.iload 4, 2) := by decide +kernel
theorem dX5_weather_94 : decode cX5_weather 94 = .ok (.ireturn, 1) := by decide +kernel
theorem dX5_many_0 : decode cX5_many 0 = .ok (.aload_n 0, 1) := by decide +kernel
theorem dX5_many_1 : decode cX5_many 1 = .ok (.iconst 0, 1) := by decide +kernel
theorem dX5_many_2 : decode cX5_many 2 = .ok (.putfield 92, 3) := by decide +kernel
theorem dX5_many_5 : decode cX5_many 5 = .ok (.iload_n 1, 1) := by decide +kernel
theorem dX5_many_6 : decode cX5_many 6 = .ok (.iconst 2, 1) := by decide +kernel
theorem dX5_many_7 : decode cX5_many 7 = .ok (.bipush 16, 2) := by decide +kernel
theorem dX5_many_9 : decode cX5_many 9 = .ok (.invokestatic 236, 3) := by decide +kernel
theorem dX5_many_12 : decode cX5_many 12 = .ok (.istore_n 2, 1) := by decide +kernel
theorem dX5_many_13 : decode cX5_many 13 = .ok (.iload_n 2, 1) := by decide +kernel
theorem dX5_many_14 : decode cX5_many 14 = .ok (.ifCond .ne 16, 3) := by decide +kernel
theorem dX5_many_17 : decode cX5_many 17 = .ok (.aload_n 0, 1) := by decide +kernel
theorem dX5_many_18 : decode cX5_many 18 = .ok (.iload_n 1, 1) := by decide +kernel
theorem dX5_many_19 : decode cX5_many 19 = .ok (.invokevirtual 178, 3) := by decide +kernel
theorem dX5_many_22 : decode cX5_many 22 = .ok (.ifCond .eq 8, 3) := by decide +kernel
theorem dX5_many_25 : decode cX5_many 25 = .ok (.bipush (-3), 2) := by decide +kernel
theorem dX5_many_27 : decode cX5_many 27 = .ok (.goto 4, 3) := by decide +kernel
theorem dX5_many_30 : decode cX5_many 30 = .ok (.iload_n 2, 1) := by decide +kernel
theorem dX5_many_31 : decode cX5_many 31 = .ok (.istore_n 2, 1) := by decide +kernel
theorem dX5_many_32 : decode cX5_many 32 = .ok (.iload_n 2, 1) := by decide +kernel
theorem dX5_many_33 : decode cX5_many 33 = .ok (.ifCond .ge 9, 3) := by decide +kernel
theorem dX5_many_36 : decode cX5_many 36 = .ok (.aload_n 0, 1) := by decide +kernel
theorem dX5_many_37 : decode cX5_many 37 = .ok (.iload_n 2, 1) := by decide +kernel
theorem dX5_many_38 : decode cX5_many 38 = .ok (.invokevirtual 139, 3) := by decide +kernel
theorem dX5_many_41 : decode cX5_many 41 = .ok (.ireturn, 1) := by decide +kernel
theorem dX5_many_42 : decode cX5_many 42 = .ok (.aload_n 0, 1) := by decide +kernel
theorem dX5_many_43 : decode cX5_many 43 = .ok (.getfield 7, 3) := by decide +kernel
theorem dX5_many_46 : decode cX5_many 46 = .ok (.istore_n 3, 1) := by decide +kernel
theorem dX5_many_47 : decode cX5_many 47 = .ok (.aload_n 0, 1) := by decide +kernel
theorem dX5_many_48 : decode cX5_many 48 = .ok (.iload_n 1, 1) := by decide +kernel
theorem dX5_many_49 : decode cX5_many 49 = .ok (.putfield 7, 3) := by decide +kernel
theorem dX5_many_52 : decode cX5_many 52 = .ok (.aload_n 0, 1) := by decide +kernel
theorem dX5_many_53 : decode cX5_many 53 = .ok (.iconst 0, 1) := by decide +kernel
theorem dX5_many_54 : decode cX5_many 54 = .ok (.putfield 212, 3) := by decide +kernel
theorem dX5_many_57 : decode cX5_many 57 = .ok (.iload_n 3, 1) := by decide +kernel
theorem dX5_many_58 : decode cX5_many 58 = .ok (.ireturn, 1) := by decide +kernel
theorem dX5_train_0 : decode cX5_train 0 = .ok (.aload_n 0, 1) := by decide +kernel
theorem dX5_train_1 : decode cX5_train 1 = .ok (.iconst 0, 1) := by decide +kernel
theorem dX5_train_2 : decode cX5_train 2 = .ok (.putfield 92, 3) := by decide +kernel
theorem dX5_train_5 : decode cX5_train 5 = .ok (.iconst 0, 1) := by decide +kernel
theorem dX5_train_6 : decode cX5_train 6 = .ok (.istore 4, 2) := by decide +kernel
theorem dX5_train_8 : decode cX5_train 8 = .ok (.iload_n 1, 1) := by decide +kernel
theorem dX5_train_9 : decode cX5_train 9 = .ok (.iconst 1, 1) := by decide +kernel
theorem dX5_train_10 : decode cX5_train 10 = .ok (.if_icmp .lt 12, 3) := by decide +kernel
theorem dX5_train_13 : decode cX5_train 13 = .ok (.iload_n 2, 1) := by decide +kernel
theorem dX5_train_14 : decode cX5_train 14 = .ok (.ifCond .lt 8, 3) := by decide +kernel
theorem dX5_train_17 : decode cX5_train 17 = .ok (.iload_n 3, 1) := by decide +kernel
theorem dX5_train_18 : decode cX5_train 18 = .ok (.iconst 1, 1) := by decide +kernel
theorem dX5_train_19 : decode cX5_train 19 = .ok (.if_icmp .ge 10, 3) := by decide +kernel
theorem dX5_train_22 : decode cX5_train 22 = .ok (.bipush (-4), 2) := by decide +kernel
theorem dX5_train_24 : decode cX5_train 24 = .ok (.istore 4, 2) := by decide +kernel
theorem dX5_train_26 : decode cX5_train 26 = .ok (.goto 32, 3) := by decide +kernel
theorem dX5_train_29 : decode cX5_train 29 = .ok (.iload_n 1, 1) := by decide +kernel
theorem dX5_train_30 : decode cX5_train 30 = .ok (.bipush 60, 2) := by decide +kernel
theorem dX5_train_32 : decode cX5_train 32 = .ok (.if_icmp .gt 22, 3) := by decide +kernel
theorem dX5_train_35 : decode cX5_train 35 = .ok (.iload_n 2, 1) := by decide +kernel
theorem dX5_train_36 : decode cX5_train 36 = .ok (.bipush 9, 2) := by decide +kernel
theorem dX5_train_38 : decode cX5_train 38 = .ok (.if_icmp .gt 16, 3) := by decide +kernel
theorem dX5_train_41 : decode cX5_train 41 = .ok (.iload_n 3, 1) := by decide +kernel
theorem dX5_train_42 : decode cX5_train 42 = .ok (.iconst 3, 1) := by decide +kernel
theorem dX5_train_43 : decode cX5_train 43 = .ok (.if_icmp .gt 11, 3) := by decide +kernel
theorem dX5_train_46 : decode cX5_train 46 = .ok (.aload_n 0, 1) := by decide +kernel
theorem dX5_train_47 : decode cX5_train 47 = .ok (.getfield 99, 3) := by decide +kernel
theorem dX5_train_50 : decode cX5_train 50 = .ok (.iconst 5, 1) := by decide +kernel
theorem dX5_train_51 : decode cX5_train 51 = .ok (.if_icmp .ne 7, 3) := by decide +kernel
theorem dX5_train_54 : decode cX5_train 54 = .ok (.bipush (-6), 2) := by decide +kernel
theorem dX5_train_56 : decode cX5_train 56 = .ok (.istore 4, 2) := by decide +kernel
theorem dX5_train_58 : decode cX5_train 58 = .ok (.iload 4, 2) := by decide +kernel
theorem dX5_train_60 : decode cX5_train 60 = .ok (.ifCond .ge 10, 3) := by decide +kernel
theorem dX5_train_63 : decode cX5_train 63 = .ok (.aload_n 0, 1) := by decide +kernel
theorem dX5_train_64 : decode cX5_train 64 = .ok (.iload 4, 2) := by decide +kernel
theorem dX5_train_66 : decode cX5_train 66 = .ok (.invokevirtual 139, 3) := by decide +kernel
theorem dX5_train_69 : decode cX5_train 69 = .ok (.ireturn, 1) := by decide +kernel
theorem dX5_train_70 : decode cX5_train 70 = .ok (.aload_n 0, 1) := by decide +kernel
theorem dX5_train_71 : decode cX5_train 71 = .ok (.iload_n 1, 1) := by decide +kernel
theorem dX5_train_72 : decode cX5_train 72 = .ok (.iload_n 2, 1) := by decide +kernel
theorem dX5_train_73 : decode cX5_train 73 = .ok (.iload_n 3, 1) := by decide +kernel
theorem dX5_train_74 : decode cX5_train 74 = .ok (.invokevirtual 188, 3) := by decide +kernel
theorem dX5_train_77 : decode cX5_train 77 = .ok (.aload_n 0, 1) := by decide +kernel
theorem dX5_train_78 : decode cX5_train 78 = .ok (.iconst 0, 1) := by decide +kernel
theorem dX5_train_79 : decode cX5_train 79 = .ok (.putfield 212, 3) := by decide +kernel
theorem dX5_train_82 : decode cX5_train 82 = .ok (.aload_n 0, 1) := by decide +kernel
theorem dX5_train_83 : decode cX5_train 83 = .ok (.getfield 99, 3) := by decide +kernel
theorem dX5_train_86 : decode cX5_train 86 = .ok (.iconst 1, 1) := by decide +kernel
theorem dX5_train_87 : decode cX5_train 87 = .ok (.isub, 1) := by decide +kernel
theorem dX5_train_88 : decode cX5_train 88 = .ok (.ireturn, 1) := by decide +kernel
theorem dX5_told_0 : decode cX5_told 0 = .ok (.aload_n 0, 1) := by decide +kernel
theorem dX5_told_1 : decode cX5_told 1 = .ok (.iconst 0, 1) := by decide +kernel
theorem dX5_told_2 : decode cX5_told 2 = .ok (.putfield 92, 3) := by decide +kernel
theorem dX5_told_5 : decode cX5_told 5 = .ok (.aload_n 0, 1) := by decide +kernel
theorem dX5_told_6 : decode cX5_told 6 = .ok (.iload_n 1, 1) := by decide +kernel
theorem dX5_told_7 : decode cX5_told 7 = .ok (.invokevirtual 192, 3) := by decide +kernel
theorem dX5_told_10 : decode cX5_told 10 = .ok (.ifCond .eq 15, 3) := by decide +kernel
theorem dX5_told_13 : decode cX5_told 13 = .ok (.iload_n 2, 1) := by decide +kernel
theorem dX5_told_14 : decode cX5_told 14 = .ok (.i2l, 1) := by decide +kernel
theorem dX5_told_15 : decode cX5_told 15 = .ok (.lconst 0, 1) := by decide +kernel
theorem dX5_told_16 : decode cX5_told 16 = .ok (.ldc2_w 234, 3) := by decide +kernel
theorem dX5_told_19 : decode cX5_told 19 = .ok (.invokestatic 95, 3) := by decide +kernel
theorem dX5_told_22 : decode cX5_told 22 = .ok (.ifCond .ne 22, 3) := by decide +kernel
theorem dX5_told_25 : decode cX5_told 25 = .ok (.aload_n 0, 1) := by decide +kernel
theorem dX5_told_26 : decode cX5_told 26 = .ok (.aload_n 0, 1) := by decide +kernel
theorem dX5_told_27 : decode cX5_told 27 = .ok (.iload_n 1, 1) := by decide +kernel
theorem dX5_told_28 : decode cX5_told 28 = .ok (.invokevirtual 192, 3) := by decide +kernel
theorem dX5_told_31 : decode cX5_told 31 = .ok (.ifCond .eq 8, 3) := by decide +kernel
theorem dX5_told_34 : decode cX5_told 34 = .ok (.bipush (-2), 2) := by decide +kernel
theorem dX5_told_36 : decode cX5_told 36 = .ok (.goto 4, 3) := by decide +kernel
theorem dX5_told_39 : decode cX5_told 39 = .ok (.iconst (-1), 1) := by decide +kernel
theorem dX5_told_40 : decode cX5_told 40 = .ok (.invokevirtual 139, 3) := by decide +kernel
theorem dX5_told_43 : decode cX5_told 43 = .ok (.ireturn, 1) := by decide +kernel
theorem dX5_told_44 : decode cX5_told 44 = .ok (.iload_n 2, 1) := by decide +kernel
theorem dX5_told_45 : decode cX5_told 45 = .ok (.tableswitch 70 0 4 #[35, 42, 49, 56, 63], 35) := by decide +kernel
theorem dX5_told_80 : decode cX5_told 80 = .ok (.aload_n 0, 1) := by decide +kernel
theorem dX5_told_81 : decode cX5_told 81 = .ok (.getfield 29, 3) := by decide +kernel
theorem dX5_told_84 : decode cX5_told 84 = .ok (.iload_n 1, 1) := by decide +kernel
theorem dX5_told_85 : decode cX5_told 85 = .ok (.iaload, 1) := by decide +kernel
theorem dX5_told_86 : decode cX5_told 86 = .ok (.ireturn, 1) := by decide +kernel
theorem dX5_told_87 : decode cX5_told 87 = .ok (.aload_n 0, 1) := by decide +kernel
theorem dX5_told_88 : decode cX5_told 88 = .ok (.getfield 32, 3) := by decide +kernel
theorem dX5_told_91 : decode cX5_told 91 = .ok (.iload_n 1, 1) := by decide +kernel
theorem dX5_told_92 : decode cX5_told 92 = .ok (.iaload, 1) := by decide +kernel
theorem dX5_told_93 : decode cX5_told 93 = .ok (.ireturn, 1) := by decide +kernel
theorem dX5_told_94 : decode cX5_told 94 = .ok (.aload_n 0, 1) := by decide +kernel
theorem dX5_told_95 : decode cX5_told 95 = .ok (.getfield 35, 3) := by decide +kernel
theorem dX5_told_98 : decode cX5_told 98 = .ok (.iload_n 1, 1) := by decide +kernel
theorem dX5_told_99 : decode cX5_told 99 = .ok (.iaload, 1) := by decide +kernel
theorem dX5_told_100 : decode cX5_told 100 = .ok (.ireturn, 1) := by decide +kernel
theorem dX5_told_101 : decode cX5_told 101 = .ok (.aload_n 0, 1) := by decide +kernel
theorem dX5_told_102 : decode cX5_told 102 = .ok (.getfield 38, 3) := by decide +kernel
theorem dX5_told_105 : decode cX5_told 105 = .ok (.iload_n 1, 1) := by decide +kernel
theorem dX5_told_106 : decode cX5_told 106 = .ok (.iaload, 1) := by decide +kernel
theorem dX5_told_107 : decode cX5_told 107 = .ok (.ireturn, 1) := by decide +kernel
theorem dX5_told_108 : decode cX5_told 108 = .ok (.aload_n 0, 1) := by decide +kernel
theorem dX5_told_109 : decode cX5_told 109 = .ok (.getfield 41, 3) := by decide +kernel
theorem dX5_told_112 : decode cX5_told 112 = .ok (.iload_n 1, 1) := by decide +kernel
theorem dX5_told_113 : decode cX5_told 113 = .ok (.iaload, 1) := by decide +kernel
theorem dX5_told_114 : decode cX5_told 114 = .ok (.ireturn, 1) := by decide +kernel
theorem dX5_told_115 : decode cX5_told 115 = .ok (.aload_n 0, 1) := by decide +kernel
theorem dX5_told_116 : decode cX5_told 116 = .ok (.getfield 44, 3) := by decide +kernel
theorem dX5_told_119 : decode cX5_told 119 = .ok (.iload_n 1, 1) := by decide +kernel
theorem dX5_told_120 : decode cX5_told 120 = .ok (.iaload, 1) := by decide +kernel
theorem dX5_told_121 : decode cX5_told 121 = .ok (.ireturn, 1) := by decide +kernel
theorem dX5_waits_0 : decode cX5_waits 0 = .ok (.aload_n 0, 1) := by decide +kernel
theorem dX5_waits_1 : decode cX5_waits 1 = .ok (.iconst 0, 1) := by decide +kernel
theorem dX5_waits_2 : decode cX5_waits 2 = .ok (.putfield 92, 3) := by decide +kernel
theorem dX5_waits_5 : decode cX5_waits 5 = .ok (.aload_n 0, 1) := by decide +kernel
theorem dX5_waits_6 : decode cX5_waits 6 = .ok (.iload_n 1, 1) := by decide +kernel
theorem dX5_waits_7 : decode cX5_waits 7 = .ok (.invokevirtual 192, 3) := by decide +kernel
theorem dX5_waits_10 : decode cX5_waits 10 = .ok (.ifCond .eq 13, 3) := by decide +kernel
theorem dX5_waits_13 : decode cX5_waits 13 = .ok (.iload_n 2, 1) := by decide +kernel
theorem dX5_waits_14 : decode cX5_waits 14 = .ok (.iconst 0, 1) := by decide +kernel
theorem dX5_waits_15 : decode cX5_waits 15 = .ok (.bipush 48, 2) := by decide +kernel
theorem dX5_waits_17 : decode cX5_waits 17 = .ok (.invokestatic 236, 3) := by decide +kernel
theorem dX5_waits_20 : decode cX5_waits 20 = .ok (.goto 4, 3) := by decide +kernel
theorem dX5_waits_23 : decode cX5_waits 23 = .ok (.iconst (-1), 1) := by decide +kernel
theorem dX5_waits_24 : decode cX5_waits 24 = .ok (.istore_n 3, 1) := by decide +kernel
theorem dX5_waits_25 : decode cX5_waits 25 = .ok (.iload_n 3, 1) := by decide +kernel
theorem dX5_waits_26 : decode cX5_waits 26 = .ok (.ifCond .ne 17, 3) := by decide +kernel
theorem dX5_waits_29 : decode cX5_waits 29 = .ok (.aload_n 0, 1) := by decide +kernel
theorem dX5_waits_30 : decode cX5_waits 30 = .ok (.getfield 44, 3) := by decide +kernel
theorem dX5_waits_33 : decode cX5_waits 33 = .ok (.iload_n 1, 1) := by decide +kernel
theorem dX5_waits_34 : decode cX5_waits 34 = .ok (.iaload, 1) := by decide +kernel
theorem dX5_waits_35 : decode cX5_waits 35 = .ok (.ifCond .eq 8, 3) := by decide +kernel
theorem dX5_waits_38 : decode cX5_waits 38 = .ok (.bipush (-3), 2) := by decide +kernel
theorem dX5_waits_40 : decode cX5_waits 40 = .ok (.goto 4, 3) := by decide +kernel
theorem dX5_waits_43 : decode cX5_waits 43 = .ok (.iload_n 3, 1) := by decide +kernel
theorem dX5_waits_44 : decode cX5_waits 44 = .ok (.istore_n 3, 1) := by decide +kernel
theorem dX5_waits_45 : decode cX5_waits 45 = .ok (.iload_n 3, 1) := by decide +kernel
theorem dX5_waits_46 : decode cX5_waits 46 = .ok (.ifCond .ge 9, 3) := by decide +kernel
theorem dX5_waits_49 : decode cX5_waits 49 = .ok (.aload_n 0, 1) := by decide +kernel
theorem dX5_waits_50 : decode cX5_waits 50 = .ok (.iload_n 3, 1) := by decide +kernel
theorem dX5_waits_51 : decode cX5_waits 51 = .ok (.invokevirtual 139, 3) := by decide +kernel
theorem dX5_waits_54 : decode cX5_waits 54 = .ok (.ireturn, 1) := by decide +kernel
theorem dX5_waits_55 : decode cX5_waits 55 = .ok (.aload_n 0, 1) := by decide +kernel
theorem dX5_waits_56 : decode cX5_waits 56 = .ok (.invokevirtual 240, 3) := by decide +kernel
theorem dX5_waits_59 : decode cX5_waits 59 = .ok (.aload_n 0, 1) := by decide +kernel
theorem dX5_waits_60 : decode cX5_waits 60 = .ok (.getfield 41, 3) := by decide +kernel
theorem dX5_waits_63 : decode cX5_waits 63 = .ok (.iload_n 1, 1) := by decide +kernel
theorem dX5_waits_64 : decode cX5_waits 64 = .ok (.iaload, 1) := by decide +kernel
theorem dX5_waits_65 : decode cX5_waits 65 = .ok (.istore 4, 2) := by decide +kernel
theorem dX5_waits_67 : decode cX5_waits 67 = .ok (.aload_n 0, 1) := by decide +kernel
theorem dX5_waits_68 : decode cX5_waits 68 = .ok (.getfield 41, 3) := by decide +kernel
theorem dX5_waits_71 : decode cX5_waits 71 = .ok (.iload_n 1, 1) := by decide +kernel
theorem dX5_waits_72 : decode cX5_waits 72 = .ok (.iload_n 2, 1) := by decide +kernel
theorem dX5_waits_73 : decode cX5_waits 73 = .ok (.iastore, 1) := by decide +kernel
theorem dX5_waits_74 : decode cX5_waits 74 = .ok (.iload 4, 2) := by decide +kernel
theorem dX5_waits_76 : decode cX5_waits 76 = .ok (.ireturn, 1) := by decide +kernel
theorem dX5_hours_0 : decode cX5_hours 0 = .ok (.aload_n 0, 1) := by decide +kernel
theorem dX5_hours_1 : decode cX5_hours 1 = .ok (.iconst 0, 1) := by decide +kernel
theorem dX5_hours_2 : decode cX5_hours 2 = .ok (.putfield 92, 3) := by decide +kernel
theorem dX5_hours_5 : decode cX5_hours 5 = .ok (.iload_n 1, 1) := by decide +kernel
theorem dX5_hours_6 : decode cX5_hours 6 = .ok (.iconst 1, 1) := by decide +kernel
theorem dX5_hours_7 : decode cX5_hours 7 = .ok (.bipush 72, 2) := by decide +kernel
theorem dX5_hours_9 : decode cX5_hours 9 = .ok (.invokestatic 236, 3) := by decide +kernel
theorem dX5_hours_12 : decode cX5_hours 12 = .ok (.istore_n 2, 1) := by decide +kernel
theorem dX5_hours_13 : decode cX5_hours 13 = .ok (.iload_n 2, 1) := by decide +kernel
theorem dX5_hours_14 : decode cX5_hours 14 = .ok (.ifCond .ne 20, 3) := by decide +kernel
theorem dX5_hours_17 : decode cX5_hours 17 = .ok (.aload_n 0, 1) := by decide +kernel
theorem dX5_hours_18 : decode cX5_hours 18 = .ok (.getfield 120, 3) := by decide +kernel
theorem dX5_hours_21 : decode cX5_hours 21 = .ok (.iload_n 1, 1) := by decide +kernel
theorem dX5_hours_22 : decode cX5_hours 22 = .ok (.iadd, 1) := by decide +kernel
theorem dX5_hours_23 : decode cX5_hours 23 = .ok (.sipush 999, 3) := by decide +kernel
theorem dX5_hours_26 : decode cX5_hours 26 = .ok (.if_icmp .le 8, 3) := by decide +kernel
theorem dX5_hours_29 : decode cX5_hours 29 = .ok (.bipush (-6), 2) := by decide +kernel
theorem dX5_hours_31 : decode cX5_hours 31 = .ok (.goto 4, 3) := by decide +kernel
theorem dX5_hours_34 : decode cX5_hours 34 = .ok (.iload_n 2, 1) := by decide +kernel
theorem dX5_hours_35 : decode cX5_hours 35 = .ok (.istore_n 2, 1) := by decide +kernel
theorem dX5_hours_36 : decode cX5_hours 36 = .ok (.iload_n 2, 1) := by decide +kernel
theorem dX5_hours_37 : decode cX5_hours 37 = .ok (.ifCond .ge 9, 3) := by decide +kernel
theorem dX5_hours_40 : decode cX5_hours 40 = .ok (.aload_n 0, 1) := by decide +kernel
theorem dX5_hours_41 : decode cX5_hours 41 = .ok (.iload_n 2, 1) := by decide +kernel
theorem dX5_hours_42 : decode cX5_hours 42 = .ok (.invokevirtual 139, 3) := by decide +kernel
theorem dX5_hours_45 : decode cX5_hours 45 = .ok (.ireturn, 1) := by decide +kernel
theorem dX5_hours_46 : decode cX5_hours 46 = .ok (.aload_n 0, 1) := by decide +kernel
theorem dX5_hours_47 : decode cX5_hours 47 = .ok (.invokevirtual 240, 3) := by decide +kernel
theorem dX5_hours_50 : decode cX5_hours 50 = .ok (.aload_n 0, 1) := by decide +kernel
theorem dX5_hours_51 : decode cX5_hours 51 = .ok (.iconst 1, 1) := by decide +kernel
theorem dX5_hours_52 : decode cX5_hours 52 = .ok (.invokevirtual 243, 3) := by decide +kernel
theorem dX5_hours_55 : decode cX5_hours 55 = .ok (.istore_n 3, 1) := by decide +kernel
theorem dX5_hours_56 : decode cX5_hours 56 = .ok (.aload_n 0, 1) := by decide +kernel
theorem dX5_hours_57 : decode cX5_hours 57 = .ok (.iload_n 1, 1) := by decide +kernel
theorem dX5_hours_58 : decode cX5_hours 58 = .ok (.invokevirtual 197, 3) := by decide +kernel
theorem dX5_hours_61 : decode cX5_hours 61 = .ok (.aload_n 0, 1) := by decide +kernel
theorem dX5_hours_62 : decode cX5_hours 62 = .ok (.iconst 1, 1) := by decide +kernel
theorem dX5_hours_63 : decode cX5_hours 63 = .ok (.invokevirtual 243, 3) := by decide +kernel
theorem dX5_hours_66 : decode cX5_hours 66 = .ok (.iload_n 3, 1) := by decide +kernel
theorem dX5_hours_67 : decode cX5_hours 67 = .ok (.isub, 1) := by decide +kernel
theorem dX5_hours_68 : decode cX5_hours 68 = .ok (.ireturn, 1) := by decide +kernel
theorem dX5_frostIn_0 : decode cX5_frostIn 0 = .ok (.aload_n 0, 1) := by decide +kernel
theorem dX5_frostIn_1 : decode cX5_frostIn 1 = .ok (.iconst 0, 1) := by decide +kernel
theorem dX5_frostIn_2 : decode cX5_frostIn 2 = .ok (.putfield 92, 3) := by decide +kernel
theorem dX5_frostIn_5 : decode cX5_frostIn 5 = .ok (.aload_n 0, 1) := by decide +kernel
theorem dX5_frostIn_6 : decode cX5_frostIn 6 = .ok (.iload_n 1, 1) := by decide +kernel
theorem dX5_frostIn_7 : decode cX5_frostIn 7 = .ok (.invokevirtual 181, 3) := by decide +kernel
theorem dX5_frostIn_10 : decode cX5_frostIn 10 = .ok (.ifCond .eq 13, 3) := by decide +kernel
theorem dX5_frostIn_13 : decode cX5_frostIn 13 = .ok (.iload_n 2, 1) := by decide +kernel
theorem dX5_frostIn_14 : decode cX5_frostIn 14 = .ok (.iconst 0, 1) := by decide +kernel
theorem dX5_frostIn_15 : decode cX5_frostIn 15 = .ok (.bipush 72, 2) := by decide +kernel
theorem dX5_frostIn_17 : decode cX5_frostIn 17 = .ok (.invokestatic 236, 3) := by decide +kernel
theorem dX5_frostIn_20 : decode cX5_frostIn 20 = .ok (.goto 4, 3) := by decide +kernel
theorem dX5_frostIn_23 : decode cX5_frostIn 23 = .ok (.iconst (-1), 1) := by decide +kernel
theorem dX5_frostIn_24 : decode cX5_frostIn 24 = .ok (.istore_n 3, 1) := by decide +kernel
theorem dX5_frostIn_25 : decode cX5_frostIn 25 = .ok (.iload_n 3, 1) := by decide +kernel
theorem dX5_frostIn_26 : decode cX5_frostIn 26 = .ok (.ifCond .ge 9, 3) := by decide +kernel
theorem dX5_frostIn_29 : decode cX5_frostIn 29 = .ok (.aload_n 0, 1) := by decide +kernel
theorem dX5_frostIn_30 : decode cX5_frostIn 30 = .ok (.iload_n 3, 1) := by decide +kernel
theorem dX5_frostIn_31 : decode cX5_frostIn 31 = .ok (.invokevirtual 139, 3) := by decide +kernel
theorem dX5_frostIn_34 : decode cX5_frostIn 34 = .ok (.ireturn, 1) := by decide +kernel
theorem dX5_frostIn_35 : decode cX5_frostIn 35 = .ok (.aload_n 0, 1) := by decide +kernel
theorem dX5_frostIn_36 : decode cX5_frostIn 36 = .ok (.invokevirtual 203, 3) := by decide +kernel
theorem dX5_frostIn_39 : decode cX5_frostIn 39 = .ok (.aload_n 0, 1) := by decide +kernel
theorem dX5_frostIn_40 : decode cX5_frostIn 40 = .ok (.iload_n 2, 1) := by decide +kernel
theorem dX5_frostIn_41 : decode cX5_frostIn 41 = .ok (.invokevirtual 197, 3) := by decide +kernel
theorem dX5_frostIn_44 : decode cX5_frostIn 44 = .ok (.aload_n 0, 1) := by decide +kernel
theorem dX5_frostIn_45 : decode cX5_frostIn 45 = .ok (.getfield 20, 3) := by decide +kernel
theorem dX5_frostIn_48 : decode cX5_frostIn 48 = .ok (.iload_n 1, 1) := by decide +kernel
theorem dX5_frostIn_49 : decode cX5_frostIn 49 = .ok (.iaload, 1) := by decide +kernel
theorem dX5_frostIn_50 : decode cX5_frostIn 50 = .ok (.istore 4, 2) := by decide +kernel
theorem dX5_frostIn_52 : decode cX5_frostIn 52 = .ok (.aload_n 0, 1) := by decide +kernel
theorem dX5_frostIn_53 : decode cX5_frostIn 53 = .ok (.invokevirtual 209, 3) := by decide +kernel
theorem dX5_frostIn_56 : decode cX5_frostIn 56 = .ok (.iload 4, 2) := by decide +kernel
theorem dX5_frostIn_58 : decode cX5_frostIn 58 = .ok (.ireturn, 1) := by decide +kernel
theorem dX5_trainIn_0 : decode cX5_trainIn 0 = .ok (.aload_n 0, 1) := by decide +kernel
theorem dX5_trainIn_1 : decode cX5_trainIn 1 = .ok (.iconst 0, 1) := by decide +kernel
theorem dX5_trainIn_2 : decode cX5_trainIn 2 = .ok (.putfield 92, 3) := by decide +kernel
theorem dX5_trainIn_5 : decode cX5_trainIn 5 = .ok (.aload_n 0, 1) := by decide +kernel
theorem dX5_trainIn_6 : decode cX5_trainIn 6 = .ok (.iload_n 1, 1) := by decide +kernel
theorem dX5_trainIn_7 : decode cX5_trainIn 7 = .ok (.invokevirtual 192, 3) := by decide +kernel
theorem dX5_trainIn_10 : decode cX5_trainIn 10 = .ok (.ifCond .eq 13, 3) := by decide +kernel
theorem dX5_trainIn_13 : decode cX5_trainIn 13 = .ok (.iload_n 2, 1) := by decide +kernel
theorem dX5_trainIn_14 : decode cX5_trainIn 14 = .ok (.iconst 0, 1) := by decide +kernel
theorem dX5_trainIn_15 : decode cX5_trainIn 15 = .ok (.bipush 72, 2) := by decide +kernel
theorem dX5_trainIn_17 : decode cX5_trainIn 17 = .ok (.invokestatic 236, 3) := by decide +kernel
theorem dX5_trainIn_20 : decode cX5_trainIn 20 = .ok (.goto 4, 3) := by decide +kernel
theorem dX5_trainIn_23 : decode cX5_trainIn 23 = .ok (.iconst (-1), 1) := by decide +kernel
theorem dX5_trainIn_24 : decode cX5_trainIn 24 = .ok (.iload_n 3, 1) := by decide +kernel
theorem dX5_trainIn_25 : decode cX5_trainIn 25 = .ok (.iconst 2, 1) := by decide +kernel
theorem dX5_trainIn_26 : decode cX5_trainIn 26 = .ok (.invokestatic 246, 3) := by decide +kernel
theorem dX5_trainIn_29 : decode cX5_trainIn 29 = .ok (.istore 4, 2) := by decide +kernel
theorem dX5_trainIn_31 : decode cX5_trainIn 31 = .ok (.iload 4, 2) := by decide +kernel
theorem dX5_trainIn_33 : decode cX5_trainIn 33 = .ok (.ifCond .ge 10, 3) := by decide +kernel
theorem dX5_trainIn_36 : decode cX5_trainIn 36 = .ok (.aload_n 0, 1) := by decide +kernel
theorem dX5_trainIn_37 : decode cX5_trainIn 37 = .ok (.iload 4, 2) := by decide +kernel
theorem dX5_trainIn_39 : decode cX5_trainIn 39 = .ok (.invokevirtual 139, 3) := by decide +kernel
theorem dX5_trainIn_42 : decode cX5_trainIn 42 = .ok (.ireturn, 1) := by decide +kernel
theorem dX5_trainIn_43 : decode cX5_trainIn 43 = .ok (.aload_n 0, 1) := by decide +kernel
theorem dX5_trainIn_44 : decode cX5_trainIn 44 = .ok (.invokevirtual 203, 3) := by decide +kernel
theorem dX5_trainIn_47 : decode cX5_trainIn 47 = .ok (.aload_n 0, 1) := by decide +kernel
theorem dX5_trainIn_48 : decode cX5_trainIn 48 = .ok (.iload_n 2, 1) := by decide +kernel
theorem dX5_trainIn_49 : decode cX5_trainIn 49 = .ok (.invokevirtual 197, 3) := by decide +kernel
theorem dX5_trainIn_52 : decode cX5_trainIn 52 = .ok (.iload_n 3, 1) := by decide +kernel
theorem dX5_trainIn_53 : decode cX5_trainIn 53 = .ok (.ifCond .ne 12, 3) := by decide +kernel
theorem dX5_trainIn_56 : decode cX5_trainIn 56 = .ok (.aload_n 0, 1) := by decide +kernel
theorem dX5_trainIn_57 : decode cX5_trainIn 57 = .ok (.getfield 44, 3) := by decide +kernel
theorem dX5_trainIn_60 : decode cX5_trainIn 60 = .ok (.iload_n 1, 1) := by decide +kernel
theorem dX5_trainIn_61 : decode cX5_trainIn 61 = .ok (.iaload, 1) := by decide +kernel
theorem dX5_trainIn_62 : decode cX5_trainIn 62 = .ok (.goto 23, 3) := by decide +kernel
theorem dX5_trainIn_65 : decode cX5_trainIn 65 = .ok (.iload_n 3, 1) := by decide +kernel
theorem dX5_trainIn_66 : decode cX5_trainIn 66 = .ok (.iconst 1, 1) := by decide +kernel
theorem dX5_trainIn_67 : decode cX5_trainIn 67 = .ok (.if_icmp .ne 12, 3) := by decide +kernel
theorem dX5_trainIn_70 : decode cX5_trainIn 70 = .ok (.aload_n 0, 1) := by decide +kernel
theorem dX5_trainIn_71 : decode cX5_trainIn 71 = .ok (.getfield 38, 3) := by decide +kernel
theorem dX5_trainIn_74 : decode cX5_trainIn 74 = .ok (.iload_n 1, 1) := by decide +kernel
theorem dX5_trainIn_75 : decode cX5_trainIn 75 = .ok (.iaload, 1) := by decide +kernel
theorem dX5_trainIn_76 : decode cX5_trainIn 76 = .ok (.goto 9, 3) := by decide +kernel
theorem dX5_trainIn_79 : decode cX5_trainIn 79 = .ok (.aload_n 0, 1) := by decide +kernel
theorem dX5_trainIn_80 : decode cX5_trainIn 80 = .ok (.getfield 53, 3) := by decide +kernel
theorem dX5_trainIn_83 : decode cX5_trainIn 83 = .ok (.iload_n 1, 1) := by decide +kernel
theorem dX5_trainIn_84 : decode cX5_trainIn 84 = .ok (.iaload, 1) := by decide +kernel
theorem dX5_trainIn_85 : decode cX5_trainIn 85 = .ok (.istore 5, 2) := by decide +kernel
theorem dX5_trainIn_87 : decode cX5_trainIn 87 = .ok (.aload_n 0, 1) := by decide +kernel
theorem dX5_trainIn_88 : decode cX5_trainIn 88 = .ok (.invokevirtual 209, 3) := by decide +kernel
theorem dX5_trainIn_91 : decode cX5_trainIn 91 = .ok (.iload 5, 2) := by decide +kernel
theorem dX5_trainIn_93 : decode cX5_trainIn 93 = .ok (.ireturn, 1) := by decide +kernel
theorem dX5_through_0 : decode cX5_through 0 = .ok (.aload_n 0, 1) := by decide +kernel
theorem dX5_through_1 : decode cX5_through 1 = .ok (.iconst 0, 1) := by decide +kernel
theorem dX5_through_2 : decode cX5_through 2 = .ok (.putfield 92, 3) := by decide +kernel
theorem dX5_through_5 : decode cX5_through 5 = .ok (.iload_n 1, 1) := by decide +kernel
theorem dX5_through_6 : decode cX5_through 6 = .ok (.iconst 0, 1) := by decide +kernel
theorem dX5_through_7 : decode cX5_through 7 = .ok (.bipush 72, 2) := by decide +kernel
theorem dX5_through_9 : decode cX5_through 9 = .ok (.invokestatic 236, 3) := by decide +kernel
theorem dX5_through_12 : decode cX5_through 12 = .ok (.iload_n 2, 1) := by decide +kernel
theorem dX5_through_13 : decode cX5_through 13 = .ok (.iconst 1, 1) := by decide +kernel
theorem dX5_through_14 : decode cX5_through 14 = .ok (.invokestatic 246, 3) := by decide +kernel
theorem dX5_through_17 : decode cX5_through 17 = .ok (.istore_n 3, 1) := by decide +kernel
theorem dX5_through_18 : decode cX5_through 18 = .ok (.iload_n 3, 1) := by decide +kernel
theorem dX5_through_19 : decode cX5_through 19 = .ok (.ifCond .ge 9, 3) := by decide +kernel
theorem dX5_through_22 : decode cX5_through 22 = .ok (.aload_n 0, 1) := by decide +kernel
theorem dX5_through_23 : decode cX5_through 23 = .ok (.iload_n 3, 1) := by decide +kernel
theorem dX5_through_24 : decode cX5_through 24 = .ok (.invokevirtual 139, 3) := by decide +kernel
theorem dX5_through_27 : decode cX5_through 27 = .ok (.ireturn, 1) := by decide +kernel
theorem dX5_through_28 : decode cX5_through 28 = .ok (.aload_n 0, 1) := by decide +kernel
theorem dX5_through_29 : decode cX5_through 29 = .ok (.invokevirtual 203, 3) := by decide +kernel
theorem dX5_through_32 : decode cX5_through 32 = .ok (.aload_n 0, 1) := by decide +kernel
theorem dX5_through_33 : decode cX5_through 33 = .ok (.iload_n 1, 1) := by decide +kernel
theorem dX5_through_34 : decode cX5_through 34 = .ok (.invokevirtual 197, 3) := by decide +kernel
theorem dX5_through_37 : decode cX5_through 37 = .ok (.aload_n 0, 1) := by decide +kernel
theorem dX5_through_38 : decode cX5_through 38 = .ok (.iload_n 2, 1) := by decide +kernel
theorem dX5_through_39 : decode cX5_through 39 = .ok (.iconst 1, 1) := by decide +kernel
theorem dX5_through_40 : decode cX5_through 40 = .ok (.iadd, 1) := by decide +kernel
theorem dX5_through_41 : decode cX5_through 41 = .ok (.invokevirtual 243, 3) := by decide +kernel
theorem dX5_through_44 : decode cX5_through 44 = .ok (.istore 4, 2) := by decide +kernel
theorem dX5_through_46 : decode cX5_through 46 = .ok (.aload_n 0, 1) := by decide +kernel
theorem dX5_through_47 : decode cX5_through 47 = .ok (.invokevirtual 209, 3) := by decide +kernel
theorem dX5_through_50 : decode cX5_through 50 = .ok (.iload 4, 2) := by decide +kernel
theorem dX5_through_52 : decode cX5_through 52 = .ok (.ireturn, 1) := by decide +kernel
theorem dX5_thin_0 : decode cX5_thin 0 = .ok (.aload_n 0, 1) := by decide +kernel
theorem dX5_thin_1 : decode cX5_thin 1 = .ok (.iconst 0, 1) := by decide +kernel
theorem dX5_thin_2 : decode cX5_thin 2 = .ok (.putfield 92, 3) := by decide +kernel
theorem dX5_thin_5 : decode cX5_thin 5 = .ok (.iload_n 1, 1) := by decide +kernel
theorem dX5_thin_6 : decode cX5_thin 6 = .ok (.ifCond .lt 8, 3) := by decide +kernel
theorem dX5_thin_9 : decode cX5_thin 9 = .ok (.iload_n 2, 1) := by decide +kernel
theorem dX5_thin_10 : decode cX5_thin 10 = .ok (.iconst 1, 1) := by decide +kernel
theorem dX5_thin_11 : decode cX5_thin 11 = .ok (.if_icmp .ge 8, 3) := by decide +kernel
theorem dX5_thin_14 : decode cX5_thin 14 = .ok (.bipush (-4), 2) := by decide +kernel
theorem dX5_thin_16 : decode cX5_thin 16 = .ok (.goto 21, 3) := by decide +kernel
theorem dX5_thin_19 : decode cX5_thin 19 = .ok (.iload_n 1, 1) := by decide +kernel
theorem dX5_thin_20 : decode cX5_thin 20 = .ok (.bipush 72, 2) := by decide +kernel
theorem dX5_thin_22 : decode cX5_thin 22 = .ok (.if_icmp .gt 9, 3) := by decide +kernel
theorem dX5_thin_25 : decode cX5_thin 25 = .ok (.iload_n 2, 1) := by decide +kernel
theorem dX5_thin_26 : decode cX5_thin 26 = .ok (.bipush 60, 2) := by decide +kernel
theorem dX5_thin_28 : decode cX5_thin 28 = .ok (.if_icmp .le 8, 3) := by decide +kernel
theorem dX5_thin_31 : decode cX5_thin 31 = .ok (.bipush (-6), 2) := by decide +kernel
theorem dX5_thin_33 : decode cX5_thin 33 = .ok (.goto 4, 3) := by decide +kernel
theorem dX5_thin_36 : decode cX5_thin 36 = .ok (.iconst 0, 1) := by decide +kernel
theorem dX5_thin_37 : decode cX5_thin 37 = .ok (.istore_n 3, 1) := by decide +kernel
theorem dX5_thin_38 : decode cX5_thin 38 = .ok (.iload_n 3, 1) := by decide +kernel
theorem dX5_thin_39 : decode cX5_thin 39 = .ok (.ifCond .ge 9, 3) := by decide +kernel
theorem dX5_thin_42 : decode cX5_thin 42 = .ok (.aload_n 0, 1) := by decide +kernel
theorem dX5_thin_43 : decode cX5_thin 43 = .ok (.iload_n 3, 1) := by decide +kernel
theorem dX5_thin_44 : decode cX5_thin 44 = .ok (.invokevirtual 139, 3) := by decide +kernel
theorem dX5_thin_47 : decode cX5_thin 47 = .ok (.ireturn, 1) := by decide +kernel
theorem dX5_thin_48 : decode cX5_thin 48 = .ok (.aload_n 0, 1) := by decide +kernel
theorem dX5_thin_49 : decode cX5_thin 49 = .ok (.invokevirtual 203, 3) := by decide +kernel
theorem dX5_thin_52 : decode cX5_thin 52 = .ok (.aload_n 0, 1) := by decide +kernel
theorem dX5_thin_53 : decode cX5_thin 53 = .ok (.iload_n 1, 1) := by decide +kernel
theorem dX5_thin_54 : decode cX5_thin 54 = .ok (.invokevirtual 197, 3) := by decide +kernel
theorem dX5_thin_57 : decode cX5_thin 57 = .ok (.bipush (-9), 2) := by decide +kernel
theorem dX5_thin_59 : decode cX5_thin 59 = .ok (.istore 4, 2) := by decide +kernel
theorem dX5_thin_61 : decode cX5_thin 61 = .ok (.aload_n 0, 1) := by decide +kernel
theorem dX5_thin_62 : decode cX5_thin 62 = .ok (.getfield 7, 3) := by decide +kernel
theorem dX5_thin_65 : decode cX5_thin 65 = .ok (.iconst 1, 1) := by decide +kernel
theorem dX5_thin_66 : decode cX5_thin 66 = .ok (.isub, 1) := by decide +kernel
theorem dX5_thin_67 : decode cX5_thin 67 = .ok (.istore 5, 2) := by decide +kernel
theorem dX5_thin_69 : decode cX5_thin 69 = .ok (.iload 5, 2) := by decide +kernel
theorem dX5_thin_71 : decode cX5_thin 71 = .ok (.ifCond .lt 28, 3) := by decide +kernel
theorem dX5_thin_74 : decode cX5_thin 74 = .ok (.aload_n 0, 1) := by decide +kernel
theorem dX5_thin_75 : decode cX5_thin 75 = .ok (.iload 5, 2) := by decide +kernel
theorem dX5_thin_77 : decode cX5_thin 77 = .ok (.iload_n 2, 1) := by decide +kernel
theorem dX5_thin_78 : decode cX5_thin 78 = .ok (.invokevirtual 110, 3) := by decide +kernel
theorem dX5_thin_81 : decode cX5_thin 81 = .ok (.ifCond .eq 8, 3) := by decide +kernel
theorem dX5_thin_84 : decode cX5_thin 84 = .ok (.iload 4, 2) := by decide +kernel
theorem dX5_thin_86 : decode cX5_thin 86 = .ok (.goto 5, 3) := by decide +kernel
theorem dX5_thin_89 : decode cX5_thin 89 = .ok (.iload 5, 2) := by decide +kernel
theorem dX5_thin_91 : decode cX5_thin 91 = .ok (.istore 4, 2) := by decide +kernel
theorem dX5_thin_93 : decode cX5_thin 93 = .ok (.iinc 5 (-1), 3) := by decide +kernel
theorem dX5_thin_96 : decode cX5_thin 96 = .ok (.goto (-27), 3) := by decide +kernel
theorem dX5_thin_99 : decode cX5_thin 99 = .ok (.aload_n 0, 1) := by decide +kernel
theorem dX5_thin_100 : decode cX5_thin 100 = .ok (.invokevirtual 209, 3) := by decide +kernel
theorem dX5_thin_103 : decode cX5_thin 103 = .ok (.iload 4, 2) := by decide +kernel
theorem dX5_thin_105 : decode cX5_thin 105 = .ok (.ireturn, 1) := by decide +kernel
theorem dX5_lasts_0 : decode cX5_lasts 0 = .ok (.aload_n 0, 1) := by decide +kernel
theorem dX5_lasts_1 : decode cX5_lasts 1 = .ok (.iconst 0, 1) := by decide +kernel
theorem dX5_lasts_2 : decode cX5_lasts 2 = .ok (.putfield 92, 3) := by decide +kernel
theorem dX5_lasts_5 : decode cX5_lasts 5 = .ok (.aload_n 0, 1) := by decide +kernel
theorem dX5_lasts_6 : decode cX5_lasts 6 = .ok (.iload_n 1, 1) := by decide +kernel
theorem dX5_lasts_7 : decode cX5_lasts 7 = .ok (.invokevirtual 181, 3) := by decide +kernel
theorem dX5_lasts_10 : decode cX5_lasts 10 = .ok (.ifCond .eq 13, 3) := by decide +kernel
theorem dX5_lasts_13 : decode cX5_lasts 13 = .ok (.iload_n 2, 1) := by decide +kernel
theorem dX5_lasts_14 : decode cX5_lasts 14 = .ok (.iconst 1, 1) := by decide +kernel
theorem dX5_lasts_15 : decode cX5_lasts 15 = .ok (.bipush 60, 2) := by decide +kernel
theorem dX5_lasts_17 : decode cX5_lasts 17 = .ok (.invokestatic 236, 3) := by decide +kernel
theorem dX5_lasts_20 : decode cX5_lasts 20 = .ok (.goto 4, 3) := by decide +kernel
theorem dX5_lasts_23 : decode cX5_lasts 23 = .ok (.iconst (-1), 1) := by decide +kernel
theorem dX5_lasts_24 : decode cX5_lasts 24 = .ok (.istore_n 3, 1) := by decide +kernel
theorem dX5_lasts_25 : decode cX5_lasts 25 = .ok (.iload_n 3, 1) := by decide +kernel
theorem dX5_lasts_26 : decode cX5_lasts 26 = .ok (.ifCond .ge 9, 3) := by decide +kernel
theorem dX5_lasts_29 : decode cX5_lasts 29 = .ok (.aload_n 0, 1) := by decide +kernel
theorem dX5_lasts_30 : decode cX5_lasts 30 = .ok (.iload_n 3, 1) := by decide +kernel
theorem dX5_lasts_31 : decode cX5_lasts 31 = .ok (.invokevirtual 139, 3) := by decide +kernel
theorem dX5_lasts_34 : decode cX5_lasts 34 = .ok (.ireturn, 1) := by decide +kernel
theorem dX5_lasts_35 : decode cX5_lasts 35 = .ok (.bipush (-9), 2) := by decide +kernel
theorem dX5_lasts_37 : decode cX5_lasts 37 = .ok (.istore 4, 2) := by decide +kernel
theorem dX5_lasts_39 : decode cX5_lasts 39 = .ok (.aload_n 0, 1) := by decide +kernel
theorem dX5_lasts_40 : decode cX5_lasts 40 = .ok (.invokevirtual 203, 3) := by decide +kernel
theorem dX5_lasts_43 : decode cX5_lasts 43 = .ok (.iconst 0, 1) := by decide +kernel
theorem dX5_lasts_44 : decode cX5_lasts 44 = .ok (.istore 5, 2) := by decide +kernel
theorem dX5_lasts_46 : decode cX5_lasts 46 = .ok (.iload 5, 2) := by decide +kernel
theorem dX5_lasts_48 : decode cX5_lasts 48 = .ok (.bipush 72, 2) := by decide +kernel
theorem dX5_lasts_50 : decode cX5_lasts 50 = .ok (.if_icmp .gt 41, 3) := by decide +kernel
theorem dX5_lasts_53 : decode cX5_lasts 53 = .ok (.iload 4, 2) := by decide +kernel
theorem dX5_lasts_55 : decode cX5_lasts 55 = .ok (.ifCond .ge 36, 3) := by decide +kernel
theorem dX5_lasts_58 : decode cX5_lasts 58 = .ok (.iload 5, 2) := by decide +kernel
theorem dX5_lasts_60 : decode cX5_lasts 60 = .ok (.ifCond .le 7, 3) := by decide +kernel
theorem dX5_lasts_63 : decode cX5_lasts 63 = .ok (.aload_n 0, 1) := by decide +kernel
theorem dX5_lasts_64 : decode cX5_lasts 64 = .ok (.invokevirtual 133, 3) := by decide +kernel
theorem dX5_lasts_67 : decode cX5_lasts 67 = .ok (.aload_n 0, 1) := by decide +kernel
theorem dX5_lasts_68 : decode cX5_lasts 68 = .ok (.iload_n 1, 1) := by decide +kernel
theorem dX5_lasts_69 : decode cX5_lasts 69 = .ok (.iload_n 2, 1) := by decide +kernel
theorem dX5_lasts_70 : decode cX5_lasts 70 = .ok (.invokevirtual 110, 3) := by decide +kernel
theorem dX5_lasts_73 : decode cX5_lasts 73 = .ok (.ifCond .eq 8, 3) := by decide +kernel
theorem dX5_lasts_76 : decode cX5_lasts 76 = .ok (.bipush (-9), 2) := by decide +kernel
theorem dX5_lasts_78 : decode cX5_lasts 78 = .ok (.goto 5, 3) := by decide +kernel
theorem dX5_lasts_81 : decode cX5_lasts 81 = .ok (.iload 5, 2) := by decide +kernel
theorem dX5_lasts_83 : decode cX5_lasts 83 = .ok (.istore 4, 2) := by decide +kernel
theorem dX5_lasts_85 : decode cX5_lasts 85 = .ok (.iinc 5 1, 3) := by decide +kernel
theorem dX5_lasts_88 : decode cX5_lasts 88 = .ok (.goto (-42), 3) := by decide +kernel
theorem dX5_lasts_91 : decode cX5_lasts 91 = .ok (.aload_n 0, 1) := by decide +kernel
theorem dX5_lasts_92 : decode cX5_lasts 92 = .ok (.invokevirtual 209, 3) := by decide +kernel
theorem dX5_lasts_95 : decode cX5_lasts 95 = .ok (.iload 4, 2) := by decide +kernel
theorem dX5_lasts_97 : decode cX5_lasts 97 = .ok (.ireturn, 1) := by decide +kernel
theorem dX5_lowest_0 : decode cX5_lowest 0 = .ok (.aload_n 0, 1) := by decide +kernel
theorem dX5_lowest_1 : decode cX5_lowest 1 = .ok (.iconst 0, 1) := by decide +kernel
theorem dX5_lowest_2 : decode cX5_lowest 2 = .ok (.putfield 92, 3) := by decide +kernel
theorem dX5_lowest_5 : decode cX5_lowest 5 = .ok (.iload_n 1, 1) := by decide +kernel
theorem dX5_lowest_6 : decode cX5_lowest 6 = .ok (.iconst 0, 1) := by decide +kernel
theorem dX5_lowest_7 : decode cX5_lowest 7 = .ok (.bipush 72, 2) := by decide +kernel
theorem dX5_lowest_9 : decode cX5_lowest 9 = .ok (.invokestatic 236, 3) := by decide +kernel
theorem dX5_lowest_12 : decode cX5_lowest 12 = .ok (.iload_n 2, 1) := by decide +kernel
theorem dX5_lowest_13 : decode cX5_lowest 13 = .ok (.iconst 1, 1) := by decide +kernel
theorem dX5_lowest_14 : decode cX5_lowest 14 = .ok (.invokestatic 246, 3) := by decide +kernel
theorem dX5_lowest_17 : decode cX5_lowest 17 = .ok (.istore_n 3, 1) := by decide +kernel
theorem dX5_lowest_18 : decode cX5_lowest 18 = .ok (.iload_n 3, 1) := by decide +kernel
theorem dX5_lowest_19 : decode cX5_lowest 19 = .ok (.ifCond .ge 9, 3) := by decide +kernel
theorem dX5_lowest_22 : decode cX5_lowest 22 = .ok (.aload_n 0, 1) := by decide +kernel
theorem dX5_lowest_23 : decode cX5_lowest 23 = .ok (.iload_n 3, 1) := by decide +kernel
theorem dX5_lowest_24 : decode cX5_lowest 24 = .ok (.invokevirtual 139, 3) := by decide +kernel
theorem dX5_lowest_27 : decode cX5_lowest 27 = .ok (.ireturn, 1) := by decide +kernel
theorem dX5_lowest_28 : decode cX5_lowest 28 = .ok (.aload_n 0, 1) := by decide +kernel
theorem dX5_lowest_29 : decode cX5_lowest 29 = .ok (.invokevirtual 203, 3) := by decide +kernel
theorem dX5_lowest_32 : decode cX5_lowest 32 = .ok (.aload_n 0, 1) := by decide +kernel
theorem dX5_lowest_33 : decode cX5_lowest 33 = .ok (.iload_n 1, 1) := by decide +kernel
theorem dX5_lowest_34 : decode cX5_lowest 34 = .ok (.invokevirtual 197, 3) := by decide +kernel
theorem dX5_lowest_37 : decode cX5_lowest 37 = .ok (.iconst 0, 1) := by decide +kernel
theorem dX5_lowest_38 : decode cX5_lowest 38 = .ok (.istore 4, 2) := by decide +kernel
theorem dX5_lowest_40 : decode cX5_lowest 40 = .ok (.iconst 1, 1) := by decide +kernel
theorem dX5_lowest_41 : decode cX5_lowest 41 = .ok (.istore 5, 2) := by decide +kernel
theorem dX5_lowest_43 : decode cX5_lowest 43 = .ok (.iload 5, 2) := by decide +kernel
theorem dX5_lowest_45 : decode cX5_lowest 45 = .ok (.aload_n 0, 1) := by decide +kernel
theorem dX5_lowest_46 : decode cX5_lowest 46 = .ok (.getfield 7, 3) := by decide +kernel
theorem dX5_lowest_49 : decode cX5_lowest 49 = .ok (.if_icmp .ge 35, 3) := by decide +kernel
theorem dX5_lowest_52 : decode cX5_lowest 52 = .ok (.aload_n 0, 1) := by decide +kernel
theorem dX5_lowest_53 : decode cX5_lowest 53 = .ok (.getfield 20, 3) := by decide +kernel
theorem dX5_lowest_56 : decode cX5_lowest 56 = .ok (.iload 5, 2) := by decide +kernel
theorem dX5_lowest_58 : decode cX5_lowest 58 = .ok (.iaload, 1) := by decide +kernel
theorem dX5_lowest_59 : decode cX5_lowest 59 = .ok (.aload_n 0, 1) := by decide +kernel
theorem dX5_lowest_60 : decode cX5_lowest 60 = .ok (.getfield 20, 3) := by decide +kernel
theorem dX5_lowest_63 : decode cX5_lowest 63 = .ok (.iload 4, 2) := by decide +kernel
theorem dX5_lowest_65 : decode cX5_lowest 65 = .ok (.iaload, 1) := by decide +kernel
theorem dX5_lowest_66 : decode cX5_lowest 66 = .ok (.if_icmp .ge 8, 3) := by decide +kernel
theorem dX5_lowest_69 : decode cX5_lowest 69 = .ok (.iload 5, 2) := by decide +kernel
theorem dX5_lowest_71 : decode cX5_lowest 71 = .ok (.goto 5, 3) := by decide +kernel
theorem dX5_lowest_74 : decode cX5_lowest 74 = .ok (.iload 4, 2) := by decide +kernel
theorem dX5_lowest_76 : decode cX5_lowest 76 = .ok (.istore 4, 2) := by decide +kernel
theorem dX5_lowest_78 : decode cX5_lowest 78 = .ok (.iinc 5 1, 3) := by decide +kernel
theorem dX5_lowest_81 : decode cX5_lowest 81 = .ok (.goto (-38), 3) := by decide +kernel
theorem dX5_lowest_84 : decode cX5_lowest 84 = .ok (.iload_n 2, 1) := by decide +kernel
theorem dX5_lowest_85 : decode cX5_lowest 85 = .ok (.ifCond .ne 13, 3) := by decide +kernel
theorem dX5_lowest_88 : decode cX5_lowest 88 = .ok (.aload_n 0, 1) := by decide +kernel
theorem dX5_lowest_89 : decode cX5_lowest 89 = .ok (.getfield 20, 3) := by decide +kernel
theorem dX5_lowest_92 : decode cX5_lowest 92 = .ok (.iload 4, 2) := by decide +kernel
theorem dX5_lowest_94 : decode cX5_lowest 94 = .ok (.iaload, 1) := by decide +kernel
theorem dX5_lowest_95 : decode cX5_lowest 95 = .ok (.goto 5, 3) := by decide +kernel
theorem dX5_lowest_98 : decode cX5_lowest 98 = .ok (.iload 4, 2) := by decide +kernel
theorem dX5_lowest_100 : decode cX5_lowest 100 = .ok (.istore 5, 2) := by decide +kernel
theorem dX5_lowest_102 : decode cX5_lowest 102 = .ok (.aload_n 0, 1) := by decide +kernel
theorem dX5_lowest_103 : decode cX5_lowest 103 = .ok (.invokevirtual 209, 3) := by decide +kernel
theorem dX5_lowest_106 : decode cX5_lowest 106 = .ok (.iload 5, 2) := by decide +kernel
theorem dX5_lowest_108 : decode cX5_lowest 108 = .ok (.ireturn, 1) := by decide +kernel
theorem dX5_throughIn_0 : decode cX5_throughIn 0 = .ok (.iconst 0, 1) := by decide +kernel
theorem dX5_throughIn_1 : decode cX5_throughIn 1 = .ok (.istore_n 2, 1) := by decide +kernel
theorem dX5_throughIn_2 : decode cX5_throughIn 2 = .ok (.iload_n 2, 1) := by decide +kernel
theorem dX5_throughIn_3 : decode cX5_throughIn 3 = .ok (.bipush 72, 2) := by decide +kernel
theorem dX5_throughIn_5 : decode cX5_throughIn 5 = .ok (.if_icmp .ge 22, 3) := by decide +kernel
theorem dX5_throughIn_8 : decode cX5_throughIn 8 = .ok (.aload_n 0, 1) := by decide +kernel
theorem dX5_throughIn_9 : decode cX5_throughIn 9 = .ok (.getfield 44, 3) := by decide +kernel
theorem dX5_throughIn_12 : decode cX5_throughIn 12 = .ok (.iload_n 1, 1) := by decide +kernel
theorem dX5_throughIn_13 : decode cX5_throughIn 13 = .ok (.iaload, 1) := by decide +kernel
theorem dX5_throughIn_14 : decode cX5_throughIn 14 = .ok (.ifCond .ne 13, 3) := by decide +kernel
theorem dX5_throughIn_17 : decode cX5_throughIn 17 = .ok (.aload_n 0, 1) := by decide +kernel
theorem dX5_throughIn_18 : decode cX5_throughIn 18 = .ok (.invokevirtual 133, 3) := by decide +kernel
theorem dX5_throughIn_21 : decode cX5_throughIn 21 = .ok (.iinc 2 1, 3) := by decide +kernel
theorem dX5_throughIn_24 : decode cX5_throughIn 24 = .ok (.goto (-22), 3) := by decide +kernel
theorem dX5_throughIn_27 : decode cX5_throughIn 27 = .ok (.aload_n 0, 1) := by decide +kernel
theorem dX5_throughIn_28 : decode cX5_throughIn 28 = .ok (.getfield 44, 3) := by decide +kernel
theorem dX5_throughIn_31 : decode cX5_throughIn 31 = .ok (.iload_n 1, 1) := by decide +kernel
theorem dX5_throughIn_32 : decode cX5_throughIn 32 = .ok (.iaload, 1) := by decide +kernel
theorem dX5_throughIn_33 : decode cX5_throughIn 33 = .ok (.iconst 1, 1) := by decide +kernel
theorem dX5_throughIn_34 : decode cX5_throughIn 34 = .ok (.if_icmp .ne 7, 3) := by decide +kernel
theorem dX5_throughIn_37 : decode cX5_throughIn 37 = .ok (.iload_n 2, 1) := by decide +kernel
theorem dX5_throughIn_38 : decode cX5_throughIn 38 = .ok (.goto 5, 3) := by decide +kernel
theorem dX5_throughIn_41 : decode cX5_throughIn 41 = .ok (.bipush 99, 2) := by decide +kernel
theorem dX5_throughIn_43 : decode cX5_throughIn 43 = .ok (.istore_n 3, 1) := by decide +kernel
theorem dX5_throughIn_44 : decode cX5_throughIn 44 = .ok (.aload_n 0, 1) := by decide +kernel
theorem dX5_throughIn_45 : decode cX5_throughIn 45 = .ok (.invokevirtual 209, 3) := by decide +kernel
theorem dX5_throughIn_48 : decode cX5_throughIn 48 = .ok (.iload_n 3, 1) := by decide +kernel
theorem dX5_throughIn_49 : decode cX5_throughIn 49 = .ok (.ireturn, 1) := by decide +kernel
theorem dX5_wrongAhead_0 : decode cX5_wrongAhead 0 = .ok (.aload_n 0, 1) := by decide +kernel
theorem dX5_wrongAhead_1 : decode cX5_wrongAhead 1 = .ok (.iload_n 1, 1) := by decide +kernel
theorem dX5_wrongAhead_2 : decode cX5_wrongAhead 2 = .ok (.invokevirtual 192, 3) := by decide +kernel
theorem dX5_wrongAhead_5 : decode cX5_wrongAhead 5 = .ok (.ifCond .ne 7, 3) := by decide +kernel
theorem dX5_wrongAhead_8 : decode cX5_wrongAhead 8 = .ok (.iconst (-1), 1) := by decide +kernel
theorem dX5_wrongAhead_9 : decode cX5_wrongAhead 9 = .ok (.goto 35, 3) := by decide +kernel
theorem dX5_wrongAhead_12 : decode cX5_wrongAhead 12 = .ok (.iload_n 2, 1) := by decide +kernel
theorem dX5_wrongAhead_13 : decode cX5_wrongAhead 13 = .ok (.ifCond .ge 7, 3) := by decide +kernel
theorem dX5_wrongAhead_16 : decode cX5_wrongAhead 16 = .ok (.iload_n 2, 1) := by decide +kernel
theorem dX5_wrongAhead_17 : decode cX5_wrongAhead 17 = .ok (.goto 27, 3) := by decide +kernel
theorem dX5_wrongAhead_20 : decode cX5_wrongAhead 20 = .ok (.aload_n 0, 1) := by decide +kernel
theorem dX5_wrongAhead_21 : decode cX5_wrongAhead 21 = .ok (.getfield 38, 3) := by decide +kernel
theorem dX5_wrongAhead_24 : decode cX5_wrongAhead 24 = .ok (.iload_n 1, 1) := by decide +kernel
theorem dX5_wrongAhead_25 : decode cX5_wrongAhead 25 = .ok (.iaload, 1) := by decide +kernel
theorem dX5_wrongAhead_26 : decode cX5_wrongAhead 26 = .ok (.ifCond .ge 12, 3) := by decide +kernel
theorem dX5_wrongAhead_29 : decode cX5_wrongAhead 29 = .ok (.aload_n 0, 1) := by decide +kernel
theorem dX5_wrongAhead_30 : decode cX5_wrongAhead 30 = .ok (.getfield 44, 3) := by decide +kernel
theorem dX5_wrongAhead_33 : decode cX5_wrongAhead 33 = .ok (.iload_n 1, 1) := by decide +kernel
theorem dX5_wrongAhead_34 : decode cX5_wrongAhead 34 = .ok (.iaload, 1) := by decide +kernel
theorem dX5_wrongAhead_35 : decode cX5_wrongAhead 35 = .ok (.ifCond .eq 8, 3) := by decide +kernel
theorem dX5_wrongAhead_38 : decode cX5_wrongAhead 38 = .ok (.bipush (-3), 2) := by decide +kernel
theorem dX5_wrongAhead_40 : decode cX5_wrongAhead 40 = .ok (.goto 4, 3) := by decide +kernel
theorem dX5_wrongAhead_43 : decode cX5_wrongAhead 43 = .ok (.iconst 0, 1) := by decide +kernel
theorem dX5_wrongAhead_44 : decode cX5_wrongAhead 44 = .ok (.ireturn, 1) := by decide +kernel
theorem dX5_last_0 : decode cX5_last 0 = .ok (.aload_n 0, 1) := by decide +kernel
theorem dX5_last_1 : decode cX5_last 1 = .ok (.iconst 0, 1) := by decide +kernel
theorem dX5_last_2 : decode cX5_last 2 = .ok (.putfield 92, 3) := by decide +kernel
theorem dX5_last_5 : decode cX5_last 5 = .ok (.aload_n 0, 1) := by decide +kernel
theorem dX5_last_6 : decode cX5_last 6 = .ok (.iload_n 1, 1) := by decide +kernel
theorem dX5_last_7 : decode cX5_last 7 = .ok (.iconst 0, 1) := by decide +kernel
theorem dX5_last_8 : decode cX5_last 8 = .ok (.invokevirtual 249, 3) := by decide +kernel
theorem dX5_last_11 : decode cX5_last 11 = .ok (.ifCond .ge 14, 3) := by decide +kernel
theorem dX5_last_14 : decode cX5_last 14 = .ok (.aload_n 0, 1) := by decide +kernel
theorem dX5_last_15 : decode cX5_last 15 = .ok (.aload_n 0, 1) := by decide +kernel
theorem dX5_last_16 : decode cX5_last 16 = .ok (.iload_n 1, 1) := by decide +kernel
theorem dX5_last_17 : decode cX5_last 17 = .ok (.iconst 0, 1) := by decide +kernel
theorem dX5_last_18 : decode cX5_last 18 = .ok (.invokevirtual 249, 3) := by decide +kernel
theorem dX5_last_21 : decode cX5_last 21 = .ok (.invokevirtual 139, 3) := by decide +kernel
theorem dX5_last_24 : decode cX5_last 24 = .ok (.ireturn, 1) := by decide +kernel
theorem dX5_last_25 : decode cX5_last 25 = .ok (.bipush (-9), 2) := by decide +kernel
theorem dX5_last_27 : decode cX5_last 27 = .ok (.istore_n 2, 1) := by decide +kernel
theorem dX5_last_28 : decode cX5_last 28 = .ok (.aload_n 0, 1) := by decide +kernel
theorem dX5_last_29 : decode cX5_last 29 = .ok (.invokevirtual 203, 3) := by decide +kernel
theorem dX5_last_32 : decode cX5_last 32 = .ok (.iconst 0, 1) := by decide +kernel
theorem dX5_last_33 : decode cX5_last 33 = .ok (.istore_n 3, 1) := by decide +kernel
theorem dX5_last_34 : decode cX5_last 34 = .ok (.iload_n 3, 1) := by decide +kernel
theorem dX5_last_35 : decode cX5_last 35 = .ok (.bipush 48, 2) := by decide +kernel
theorem dX5_last_37 : decode cX5_last 37 = .ok (.if_icmp .gt 32, 3) := by decide +kernel
theorem dX5_last_40 : decode cX5_last 40 = .ok (.aload_n 0, 1) := by decide +kernel
theorem dX5_last_41 : decode cX5_last 41 = .ok (.getfield 41, 3) := by decide +kernel
theorem dX5_last_44 : decode cX5_last 44 = .ok (.iload_n 1, 1) := by decide +kernel
theorem dX5_last_45 : decode cX5_last 45 = .ok (.iload_n 3, 1) := by decide +kernel
theorem dX5_last_46 : decode cX5_last 46 = .ok (.iastore, 1) := by decide +kernel
theorem dX5_last_47 : decode cX5_last 47 = .ok (.aload_n 0, 1) := by decide +kernel
theorem dX5_last_48 : decode cX5_last 48 = .ok (.iload_n 1, 1) := by decide +kernel
theorem dX5_last_49 : decode cX5_last 49 = .ok (.invokevirtual 252, 3) := by decide +kernel
theorem dX5_last_52 : decode cX5_last 52 = .ok (.bipush 99, 2) := by decide +kernel
theorem dX5_last_54 : decode cX5_last 54 = .ok (.if_icmp .ge 7, 3) := by decide +kernel
theorem dX5_last_57 : decode cX5_last 57 = .ok (.iload_n 3, 1) := by decide +kernel
theorem dX5_last_58 : decode cX5_last 58 = .ok (.goto 4, 3) := by decide +kernel
theorem dX5_last_61 : decode cX5_last 61 = .ok (.iload_n 2, 1) := by decide +kernel
theorem dX5_last_62 : decode cX5_last 62 = .ok (.istore_n 2, 1) := by decide +kernel
theorem dX5_last_63 : decode cX5_last 63 = .ok (.iinc 3 1, 3) := by decide +kernel
theorem dX5_last_66 : decode cX5_last 66 = .ok (.goto (-32), 3) := by decide +kernel
theorem dX5_last_69 : decode cX5_last 69 = .ok (.iload_n 2, 1) := by decide +kernel
theorem dX5_last_70 : decode cX5_last 70 = .ok (.ireturn, 1) := by decide +kernel
theorem dX5_bestWait_0 : decode cX5_bestWait 0 = .ok (.aload_n 0, 1) := by decide +kernel
theorem dX5_bestWait_1 : decode cX5_bestWait 1 = .ok (.iconst 0, 1) := by decide +kernel
theorem dX5_bestWait_2 : decode cX5_bestWait 2 = .ok (.putfield 92, 3) := by decide +kernel
theorem dX5_bestWait_5 : decode cX5_bestWait 5 = .ok (.aload_n 0, 1) := by decide +kernel
theorem dX5_bestWait_6 : decode cX5_bestWait 6 = .ok (.iload_n 1, 1) := by decide +kernel
theorem dX5_bestWait_7 : decode cX5_bestWait 7 = .ok (.iconst 0, 1) := by decide +kernel
theorem dX5_bestWait_8 : decode cX5_bestWait 8 = .ok (.iload_n 2, 1) := by decide +kernel
theorem dX5_bestWait_9 : decode cX5_bestWait 9 = .ok (.iconst 1, 1) := by decide +kernel
theorem dX5_bestWait_10 : decode cX5_bestWait 10 = .ok (.invokestatic 246, 3) := by decide +kernel
theorem dX5_bestWait_13 : decode cX5_bestWait 13 = .ok (.invokevirtual 249, 3) := by decide +kernel
theorem dX5_bestWait_16 : decode cX5_bestWait 16 = .ok (.istore_n 3, 1) := by decide +kernel
theorem dX5_bestWait_17 : decode cX5_bestWait 17 = .ok (.iload_n 3, 1) := by decide +kernel
theorem dX5_bestWait_18 : decode cX5_bestWait 18 = .ok (.ifCond .ge 9, 3) := by decide +kernel
theorem dX5_bestWait_21 : decode cX5_bestWait 21 = .ok (.aload_n 0, 1) := by decide +kernel
theorem dX5_bestWait_22 : decode cX5_bestWait 22 = .ok (.iload_n 3, 1) := by decide +kernel
theorem dX5_bestWait_23 : decode cX5_bestWait 23 = .ok (.invokevirtual 139, 3) := by decide +kernel
theorem dX5_bestWait_26 : decode cX5_bestWait 26 = .ok (.ireturn, 1) := by decide +kernel
theorem dX5_bestWait_27 : decode cX5_bestWait 27 = .ok (.bipush (-9), 2) := by decide +kernel
theorem dX5_bestWait_29 : decode cX5_bestWait 29 = .ok (.istore 4, 2) := by decide +kernel
theorem dX5_bestWait_31 : decode cX5_bestWait 31 = .ok (.bipush 99, 2) := by decide +kernel
theorem dX5_bestWait_33 : decode cX5_bestWait 33 = .ok (.istore 5, 2) := by decide +kernel
theorem dX5_bestWait_35 : decode cX5_bestWait 35 = .ok (.aload_n 0, 1) := by decide +kernel
theorem dX5_bestWait_36 : decode cX5_bestWait 36 = .ok (.invokevirtual 203, 3) := by decide +kernel
theorem dX5_bestWait_39 : decode cX5_bestWait 39 = .ok (.iconst 0, 1) := by decide +kernel
theorem dX5_bestWait_40 : decode cX5_bestWait 40 = .ok (.istore 6, 2) := by decide +kernel
theorem dX5_bestWait_42 : decode cX5_bestWait 42 = .ok (.iload 6, 2) := by decide +kernel
theorem dX5_bestWait_44 : decode cX5_bestWait 44 = .ok (.bipush 48, 2) := by decide +kernel
theorem dX5_bestWait_46 : decode cX5_bestWait 46 = .ok (.if_icmp .gt 56, 3) := by decide +kernel
theorem dX5_bestWait_49 : decode cX5_bestWait 49 = .ok (.aload_n 0, 1) := by decide +kernel
theorem dX5_bestWait_50 : decode cX5_bestWait 50 = .ok (.getfield 41, 3) := by decide +kernel
theorem dX5_bestWait_53 : decode cX5_bestWait 53 = .ok (.iload_n 1, 1) := by decide +kernel
theorem dX5_bestWait_54 : decode cX5_bestWait 54 = .ok (.iload 6, 2) := by decide +kernel
theorem dX5_bestWait_56 : decode cX5_bestWait 56 = .ok (.iastore, 1) := by decide +kernel
theorem dX5_bestWait_57 : decode cX5_bestWait 57 = .ok (.aload_n 0, 1) := by decide +kernel
theorem dX5_bestWait_58 : decode cX5_bestWait 58 = .ok (.iload_n 1, 1) := by decide +kernel
theorem dX5_bestWait_59 : decode cX5_bestWait 59 = .ok (.invokevirtual 252, 3) := by decide +kernel
theorem dX5_bestWait_62 : decode cX5_bestWait 62 = .ok (.istore 7, 2) := by decide +kernel
theorem dX5_bestWait_64 : decode cX5_bestWait 64 = .ok (.iload 7, 2) := by decide +kernel
theorem dX5_bestWait_66 : decode cX5_bestWait 66 = .ok (.iload 5, 2) := by decide +kernel
theorem dX5_bestWait_68 : decode cX5_bestWait 68 = .ok (.if_icmp .ge 8, 3) := by decide +kernel
theorem dX5_bestWait_71 : decode cX5_bestWait 71 = .ok (.iload 6, 2) := by decide +kernel
theorem dX5_bestWait_73 : decode cX5_bestWait 73 = .ok (.goto 5, 3) := by decide +kernel
theorem dX5_bestWait_76 : decode cX5_bestWait 76 = .ok (.iload 4, 2) := by decide +kernel
theorem dX5_bestWait_78 : decode cX5_bestWait 78 = .ok (.istore 4, 2) := by decide +kernel
theorem dX5_bestWait_80 : decode cX5_bestWait 80 = .ok (.iload 7, 2) := by decide +kernel
theorem dX5_bestWait_82 : decode cX5_bestWait 82 = .ok (.iload 5, 2) := by decide +kernel
theorem dX5_bestWait_84 : decode cX5_bestWait 84 = .ok (.if_icmp .ge 8, 3) := by decide +kernel
theorem dX5_bestWait_87 : decode cX5_bestWait 87 = .ok (.iload 7, 2) := by decide +kernel
theorem dX5_bestWait_89 : decode cX5_bestWait 89 = .ok (.goto 5, 3) := by decide +kernel
theorem dX5_bestWait_92 : decode cX5_bestWait 92 = .ok (.iload 5, 2) := by decide +kernel
theorem dX5_bestWait_94 : decode cX5_bestWait 94 = .ok (.istore 5, 2) := by decide +kernel
theorem dX5_bestWait_96 : decode cX5_bestWait 96 = .ok (.iinc 6 1, 3) := by decide +kernel
theorem dX5_bestWait_99 : decode cX5_bestWait 99 = .ok (.goto (-57), 3) := by decide +kernel
theorem dX5_bestWait_102 : decode cX5_bestWait 102 = .ok (.iload_n 2, 1) := by decide +kernel
theorem dX5_bestWait_103 : decode cX5_bestWait 103 = .ok (.ifCond .eq 8, 3) := by decide +kernel
theorem dX5_bestWait_106 : decode cX5_bestWait 106 = .ok (.iload 4, 2) := by decide +kernel
theorem dX5_bestWait_108 : decode cX5_bestWait 108 = .ok (.ifCond .ge 8, 3) := by decide +kernel
theorem dX5_bestWait_111 : decode cX5_bestWait 111 = .ok (.iload 4, 2) := by decide +kernel
theorem dX5_bestWait_113 : decode cX5_bestWait 113 = .ok (.goto 5, 3) := by decide +kernel
theorem dX5_bestWait_116 : decode cX5_bestWait 116 = .ok (.iload 5, 2) := by decide +kernel
theorem dX5_bestWait_118 : decode cX5_bestWait 118 = .ok (.ireturn, 1) := by decide +kernel
theorem dX5_heaviest_0 : decode cX5_heaviest 0 = .ok (.aload_n 0, 1) := by decide +kernel
theorem dX5_heaviest_1 : decode cX5_heaviest 1 = .ok (.iconst 0, 1) := by decide +kernel
theorem dX5_heaviest_2 : decode cX5_heaviest 2 = .ok (.putfield 92, 3) := by decide +kernel
theorem dX5_heaviest_5 : decode cX5_heaviest 5 = .ok (.aload_n 0, 1) := by decide +kernel
theorem dX5_heaviest_6 : decode cX5_heaviest 6 = .ok (.iload_n 1, 1) := by decide +kernel
theorem dX5_heaviest_7 : decode cX5_heaviest 7 = .ok (.iconst 0, 1) := by decide +kernel
theorem dX5_heaviest_8 : decode cX5_heaviest 8 = .ok (.iload_n 2, 1) := by decide +kernel
theorem dX5_heaviest_9 : decode cX5_heaviest 9 = .ok (.iconst 2, 1) := by decide +kernel
theorem dX5_heaviest_10 : decode cX5_heaviest 10 = .ok (.invokestatic 246, 3) := by decide +kernel
theorem dX5_heaviest_13 : decode cX5_heaviest 13 = .ok (.invokevirtual 249, 3) := by decide +kernel
theorem dX5_heaviest_16 : decode cX5_heaviest 16 = .ok (.istore_n 3, 1) := by decide +kernel
theorem dX5_heaviest_17 : decode cX5_heaviest 17 = .ok (.iload_n 3, 1) := by decide +kernel
theorem dX5_heaviest_18 : decode cX5_heaviest 18 = .ok (.ifCond .ge 9, 3) := by decide +kernel
theorem dX5_heaviest_21 : decode cX5_heaviest 21 = .ok (.aload_n 0, 1) := by decide +kernel
theorem dX5_heaviest_22 : decode cX5_heaviest 22 = .ok (.iload_n 3, 1) := by decide +kernel
theorem dX5_heaviest_23 : decode cX5_heaviest 23 = .ok (.invokevirtual 139, 3) := by decide +kernel
theorem dX5_heaviest_26 : decode cX5_heaviest 26 = .ok (.ireturn, 1) := by decide +kernel
theorem dX5_heaviest_27 : decode cX5_heaviest 27 = .ok (.bipush (-9), 2) := by decide +kernel
theorem dX5_heaviest_29 : decode cX5_heaviest 29 = .ok (.istore 4, 2) := by decide +kernel
theorem dX5_heaviest_31 : decode cX5_heaviest 31 = .ok (.bipush 99, 2) := by decide +kernel
theorem dX5_heaviest_33 : decode cX5_heaviest 33 = .ok (.istore 5, 2) := by decide +kernel
theorem dX5_heaviest_35 : decode cX5_heaviest 35 = .ok (.iload_n 2, 1) := by decide +kernel
theorem dX5_heaviest_36 : decode cX5_heaviest 36 = .ok (.ifCond .ne 8, 3) := by decide +kernel
theorem dX5_heaviest_39 : decode cX5_heaviest 39 = .ok (.bipush 60, 2) := by decide +kernel
theorem dX5_heaviest_41 : decode cX5_heaviest 41 = .ok (.goto 14, 3) := by decide +kernel
theorem dX5_heaviest_44 : decode cX5_heaviest 44 = .ok (.iload_n 2, 1) := by decide +kernel
theorem dX5_heaviest_45 : decode cX5_heaviest 45 = .ok (.iconst 1, 1) := by decide +kernel
theorem dX5_heaviest_46 : decode cX5_heaviest 46 = .ok (.if_icmp .ne 8, 3) := by decide +kernel
theorem dX5_heaviest_49 : decode cX5_heaviest 49 = .ok (.bipush 9, 2) := by decide +kernel
theorem dX5_heaviest_51 : decode cX5_heaviest 51 = .ok (.goto 4, 3) := by decide +kernel
theorem dX5_heaviest_54 : decode cX5_heaviest 54 = .ok (.iconst 3, 1) := by decide +kernel
theorem dX5_heaviest_55 : decode cX5_heaviest 55 = .ok (.istore 6, 2) := by decide +kernel
theorem dX5_heaviest_57 : decode cX5_heaviest 57 = .ok (.aload_n 0, 1) := by decide +kernel
theorem dX5_heaviest_58 : decode cX5_heaviest 58 = .ok (.invokevirtual 203, 3) := by decide +kernel
theorem dX5_heaviest_61 : decode cX5_heaviest 61 = .ok (.iload_n 2, 1) := by decide +kernel
theorem dX5_heaviest_62 : decode cX5_heaviest 62 = .ok (.iconst 1, 1) := by decide +kernel
theorem dX5_heaviest_63 : decode cX5_heaviest 63 = .ok (.if_icmp .ne 7, 3) := by decide +kernel
theorem dX5_heaviest_66 : decode cX5_heaviest 66 = .ok (.iconst 0, 1) := by decide +kernel
theorem dX5_heaviest_67 : decode cX5_heaviest 67 = .ok (.goto 4, 3) := by decide +kernel
theorem dX5_heaviest_70 : decode cX5_heaviest 70 = .ok (.iconst 1, 1) := by decide +kernel
theorem dX5_heaviest_71 : decode cX5_heaviest 71 = .ok (.istore 7, 2) := by decide +kernel
theorem dX5_heaviest_73 : decode cX5_heaviest 73 = .ok (.iload 7, 2) := by decide +kernel
theorem dX5_heaviest_75 : decode cX5_heaviest 75 = .ok (.iload 6, 2) := by decide +kernel
theorem dX5_heaviest_77 : decode cX5_heaviest 77 = .ok (.if_icmp .gt 135, 3) := by decide +kernel
theorem dX5_heaviest_80 : decode cX5_heaviest 80 = .ok (.aload_n 0, 1) := by decide +kernel
theorem dX5_heaviest_81 : decode cX5_heaviest 81 = .ok (.getfield 29, 3) := by decide +kernel
theorem dX5_heaviest_84 : decode cX5_heaviest 84 = .ok (.iload_n 1, 1) := by decide +kernel
theorem dX5_heaviest_85 : decode cX5_heaviest 85 = .ok (.iload_n 2, 1) := by decide +kernel
theorem dX5_heaviest_86 : decode cX5_heaviest 86 = .ok (.ifCond .ne 8, 3) := by decide +kernel
theorem dX5_heaviest_89 : decode cX5_heaviest 89 = .ok (.iload 7, 2) := by decide +kernel
theorem dX5_heaviest_91 : decode cX5_heaviest 91 = .ok (.goto 9, 3) := by decide +kernel
theorem dX5_heaviest_94 : decode cX5_heaviest 94 = .ok (.aload_n 0, 1) := by decide +kernel
theorem dX5_heaviest_95 : decode cX5_heaviest 95 = .ok (.getfield 29, 3) := by decide +kernel
theorem dX5_heaviest_98 : decode cX5_heaviest 98 = .ok (.iload_n 1, 1) := by decide +kernel
theorem dX5_heaviest_99 : decode cX5_heaviest 99 = .ok (.iaload, 1) := by decide +kernel
theorem dX5_heaviest_100 : decode cX5_heaviest 100 = .ok (.iastore, 1) := by decide +kernel
theorem dX5_heaviest_101 : decode cX5_heaviest 101 = .ok (.aload_n 0, 1) := by decide +kernel
theorem dX5_heaviest_102 : decode cX5_heaviest 102 = .ok (.getfield 32, 3) := by decide +kernel
theorem dX5_heaviest_105 : decode cX5_heaviest 105 = .ok (.iload_n 1, 1) := by decide +kernel
theorem dX5_heaviest_106 : decode cX5_heaviest 106 = .ok (.iload_n 2, 1) := by decide +kernel
theorem dX5_heaviest_107 : decode cX5_heaviest 107 = .ok (.iconst 1, 1) := by decide +kernel
theorem dX5_heaviest_108 : decode cX5_heaviest 108 = .ok (.if_icmp .ne 8, 3) := by decide +kernel
theorem dX5_heaviest_111 : decode cX5_heaviest 111 = .ok (.iload 7, 2) := by decide +kernel
theorem dX5_heaviest_113 : decode cX5_heaviest 113 = .ok (.goto 9, 3) := by decide +kernel
theorem dX5_heaviest_116 : decode cX5_heaviest 116 = .ok (.aload_n 0, 1) := by decide +kernel
theorem dX5_heaviest_117 : decode cX5_heaviest 117 = .ok (.getfield 32, 3) := by decide +kernel
theorem dX5_heaviest_120 : decode cX5_heaviest 120 = .ok (.iload_n 1, 1) := by decide +kernel
theorem dX5_heaviest_121 : decode cX5_heaviest 121 = .ok (.iaload, 1) := by decide +kernel
theorem dX5_heaviest_122 : decode cX5_heaviest 122 = .ok (.iastore, 1) := by decide +kernel
theorem dX5_heaviest_123 : decode cX5_heaviest 123 = .ok (.aload_n 0, 1) := by decide +kernel
theorem dX5_heaviest_124 : decode cX5_heaviest 124 = .ok (.getfield 35, 3) := by decide +kernel
theorem dX5_heaviest_127 : decode cX5_heaviest 127 = .ok (.iload_n 1, 1) := by decide +kernel
theorem dX5_heaviest_128 : decode cX5_heaviest 128 = .ok (.iload_n 2, 1) := by decide +kernel
theorem dX5_heaviest_129 : decode cX5_heaviest 129 = .ok (.iconst 2, 1) := by decide +kernel
theorem dX5_heaviest_130 : decode cX5_heaviest 130 = .ok (.if_icmp .ne 8, 3) := by decide +kernel
theorem dX5_heaviest_133 : decode cX5_heaviest 133 = .ok (.iload 7, 2) := by decide +kernel
theorem dX5_heaviest_135 : decode cX5_heaviest 135 = .ok (.goto 9, 3) := by decide +kernel
theorem dX5_heaviest_138 : decode cX5_heaviest 138 = .ok (.aload_n 0, 1) := by decide +kernel
theorem dX5_heaviest_139 : decode cX5_heaviest 139 = .ok (.getfield 35, 3) := by decide +kernel
theorem dX5_heaviest_142 : decode cX5_heaviest 142 = .ok (.iload_n 1, 1) := by decide +kernel
theorem dX5_heaviest_143 : decode cX5_heaviest 143 = .ok (.iaload, 1) := by decide +kernel
theorem dX5_heaviest_144 : decode cX5_heaviest 144 = .ok (.iastore, 1) := by decide +kernel
theorem dX5_heaviest_145 : decode cX5_heaviest 145 = .ok (.aload_n 0, 1) := by decide +kernel
theorem dX5_heaviest_146 : decode cX5_heaviest 146 = .ok (.iload_n 1, 1) := by decide +kernel
theorem dX5_heaviest_147 : decode cX5_heaviest 147 = .ok (.invokevirtual 252, 3) := by decide +kernel
theorem dX5_heaviest_150 : decode cX5_heaviest 150 = .ok (.istore 8, 2) := by decide +kernel
theorem dX5_heaviest_152 : decode cX5_heaviest 152 = .ok (.iload_n 2, 1) := by decide +kernel
theorem dX5_heaviest_153 : decode cX5_heaviest 153 = .ok (.iconst 2, 1) := by decide +kernel
theorem dX5_heaviest_154 : decode cX5_heaviest 154 = .ok (.if_icmp .ne 20, 3) := by decide +kernel
theorem dX5_heaviest_157 : decode cX5_heaviest 157 = .ok (.iload 8, 2) := by decide +kernel
theorem dX5_heaviest_159 : decode cX5_heaviest 159 = .ok (.iload 5, 2) := by decide +kernel
theorem dX5_heaviest_161 : decode cX5_heaviest 161 = .ok (.if_icmp .ge 8, 3) := by decide +kernel
theorem dX5_heaviest_164 : decode cX5_heaviest 164 = .ok (.iload 7, 2) := by decide +kernel
theorem dX5_heaviest_166 : decode cX5_heaviest 166 = .ok (.goto 22, 3) := by decide +kernel
theorem dX5_heaviest_169 : decode cX5_heaviest 169 = .ok (.iload 4, 2) := by decide +kernel
theorem dX5_heaviest_171 : decode cX5_heaviest 171 = .ok (.goto 17, 3) := by decide +kernel
theorem dX5_heaviest_174 : decode cX5_heaviest 174 = .ok (.iload 8, 2) := by decide +kernel
theorem dX5_heaviest_176 : decode cX5_heaviest 176 = .ok (.bipush 99, 2) := by decide +kernel
theorem dX5_heaviest_178 : decode cX5_heaviest 178 = .ok (.if_icmp .ge 8, 3) := by decide +kernel
theorem dX5_heaviest_181 : decode cX5_heaviest 181 = .ok (.iload 7, 2) := by decide +kernel
theorem dX5_heaviest_183 : decode cX5_heaviest 183 = .ok (.goto 5, 3) := by decide +kernel
theorem dX5_heaviest_186 : decode cX5_heaviest 186 = .ok (.iload 4, 2) := by decide +kernel
theorem dX5_heaviest_188 : decode cX5_heaviest 188 = .ok (.istore 4, 2) := by decide +kernel
theorem dX5_heaviest_190 : decode cX5_heaviest 190 = .ok (.iload 8, 2) := by decide +kernel
theorem dX5_heaviest_192 : decode cX5_heaviest 192 = .ok (.iload 5, 2) := by decide +kernel
theorem dX5_heaviest_194 : decode cX5_heaviest 194 = .ok (.if_icmp .ge 8, 3) := by decide +kernel
theorem dX5_heaviest_197 : decode cX5_heaviest 197 = .ok (.iload 8, 2) := by decide +kernel
theorem dX5_heaviest_199 : decode cX5_heaviest 199 = .ok (.goto 5, 3) := by decide +kernel
theorem dX5_heaviest_202 : decode cX5_heaviest 202 = .ok (.iload 5, 2) := by decide +kernel
theorem dX5_heaviest_204 : decode cX5_heaviest 204 = .ok (.istore 5, 2) := by decide +kernel
theorem dX5_heaviest_206 : decode cX5_heaviest 206 = .ok (.iinc 7 1, 3) := by decide +kernel
theorem dX5_heaviest_209 : decode cX5_heaviest 209 = .ok (.goto (-136), 3) := by decide +kernel
theorem dX5_heaviest_212 : decode cX5_heaviest 212 = .ok (.iload 4, 2) := by decide +kernel
theorem dX5_heaviest_214 : decode cX5_heaviest 214 = .ok (.ireturn, 1) := by decide +kernel
theorem dX5_pour_0 : decode cX5_pour 0 = .ok (.aload_n 0, 1) := by decide +kernel
theorem dX5_pour_1 : decode cX5_pour 1 = .ok (.getfield 20, 3) := by decide +kernel
theorem dX5_pour_4 : decode cX5_pour 4 = .ok (.iload_n 1, 1) := by decide +kernel
theorem dX5_pour_5 : decode cX5_pour 5 = .ok (.aload_n 0, 1) := by decide +kernel
theorem dX5_pour_6 : decode cX5_pour 6 = .ok (.getfield 20, 3) := by decide +kernel
theorem dX5_pour_9 : decode cX5_pour 9 = .ok (.iload_n 1, 1) := by decide +kernel
theorem dX5_pour_10 : decode cX5_pour 10 = .ok (.iaload, 1) := by decide +kernel
theorem dX5_pour_11 : decode cX5_pour 11 = .ok (.bipush 10, 2) := by decide +kernel
theorem dX5_pour_13 : decode cX5_pour 13 = .ok (.iadd, 1) := by decide +kernel
theorem dX5_pour_14 : decode cX5_pour 14 = .ok (.invokestatic 117, 3) := by decide +kernel
theorem dX5_pour_17 : decode cX5_pour 17 = .ok (.iastore, 1) := by decide +kernel
theorem dX5_pour_18 : decode cX5_pour 18 = .ok (.return_, 1) := by decide +kernel
theorem dX5_throughBy72_0 : decode cX5_throughBy72 0 = .ok (.aload_n 0, 1) := by decide +kernel
theorem dX5_throughBy72_1 : decode cX5_throughBy72 1 = .ok (.bipush 72, 2) := by decide +kernel
theorem dX5_throughBy72_3 : decode cX5_throughBy72 3 = .ok (.invokevirtual 197, 3) := by decide +kernel
theorem dX5_throughBy72_6 : decode cX5_throughBy72 6 = .ok (.aload_n 0, 1) := by decide +kernel
theorem dX5_throughBy72_7 : decode cX5_throughBy72 7 = .ok (.iconst 1, 1) := by decide +kernel
theorem dX5_throughBy72_8 : decode cX5_throughBy72 8 = .ok (.invokevirtual 243, 3) := by decide +kernel
theorem dX5_throughBy72_11 : decode cX5_throughBy72 11 = .ok (.istore_n 1, 1) := by decide +kernel
theorem dX5_throughBy72_12 : decode cX5_throughBy72 12 = .ok (.aload_n 0, 1) := by decide +kernel
theorem dX5_throughBy72_13 : decode cX5_throughBy72 13 = .ok (.invokevirtual 209, 3) := by decide +kernel
theorem dX5_throughBy72_16 : decode cX5_throughBy72 16 = .ok (.iload_n 1, 1) := by decide +kernel
theorem dX5_throughBy72_17 : decode cX5_throughBy72 17 = .ok (.ireturn, 1) := by decide +kernel
theorem dX5_pourFirst_0 : decode cX5_pourFirst 0 = .ok (.aload_n 0, 1) := by decide +kernel
theorem dX5_pourFirst_1 : decode cX5_pourFirst 1 = .ok (.iconst 0, 1) := by decide +kernel
theorem dX5_pourFirst_2 : decode cX5_pourFirst 2 = .ok (.putfield 92, 3) := by decide +kernel
theorem dX5_pourFirst_5 : decode cX5_pourFirst 5 = .ok (.aload_n 0, 1) := by decide +kernel
theorem dX5_pourFirst_6 : decode cX5_pourFirst 6 = .ok (.invokevirtual 203, 3) := by decide +kernel
theorem dX5_pourFirst_9 : decode cX5_pourFirst 9 = .ok (.aload_n 0, 1) := by decide +kernel
theorem dX5_pourFirst_10 : decode cX5_pourFirst 10 = .ok (.invokevirtual 255, 3) := by decide +kernel
theorem dX5_pourFirst_13 : decode cX5_pourFirst 13 = .ok (.istore_n 1, 1) := by decide +kernel
theorem dX5_pourFirst_14 : decode cX5_pourFirst 14 = .ok (.bipush (-9), 2) := by decide +kernel
theorem dX5_pourFirst_16 : decode cX5_pourFirst 16 = .ok (.istore_n 2, 1) := by decide +kernel
theorem dX5_pourFirst_17 : decode cX5_pourFirst 17 = .ok (.iconst 0, 1) := by decide +kernel
theorem dX5_pourFirst_18 : decode cX5_pourFirst 18 = .ok (.istore_n 3, 1) := by decide +kernel
theorem dX5_pourFirst_19 : decode cX5_pourFirst 19 = .ok (.iload_n 3, 1) := by decide +kernel
theorem dX5_pourFirst_20 : decode cX5_pourFirst 20 = .ok (.aload_n 0, 1) := by decide +kernel
theorem dX5_pourFirst_21 : decode cX5_pourFirst 21 = .ok (.getfield 7, 3) := by decide +kernel
theorem dX5_pourFirst_24 : decode cX5_pourFirst 24 = .ok (.if_icmp .ge 45, 3) := by decide +kernel
theorem dX5_pourFirst_27 : decode cX5_pourFirst 27 = .ok (.aload_n 0, 1) := by decide +kernel
theorem dX5_pourFirst_28 : decode cX5_pourFirst 28 = .ok (.iload_n 3, 1) := by decide +kernel
theorem dX5_pourFirst_29 : decode cX5_pourFirst 29 = .ok (.invokevirtual 258, 3) := by decide +kernel
theorem dX5_pourFirst_32 : decode cX5_pourFirst 32 = .ok (.aload_n 0, 1) := by decide +kernel
theorem dX5_pourFirst_33 : decode cX5_pourFirst 33 = .ok (.invokevirtual 255, 3) := by decide +kernel
theorem dX5_pourFirst_36 : decode cX5_pourFirst 36 = .ok (.istore 4, 2) := by decide +kernel
theorem dX5_pourFirst_38 : decode cX5_pourFirst 38 = .ok (.iload 4, 2) := by decide +kernel
theorem dX5_pourFirst_40 : decode cX5_pourFirst 40 = .ok (.iload_n 1, 1) := by decide +kernel
theorem dX5_pourFirst_41 : decode cX5_pourFirst 41 = .ok (.if_icmp .le 7, 3) := by decide +kernel
theorem dX5_pourFirst_44 : decode cX5_pourFirst 44 = .ok (.iload_n 3, 1) := by decide +kernel
theorem dX5_pourFirst_45 : decode cX5_pourFirst 45 = .ok (.goto 4, 3) := by decide +kernel
theorem dX5_pourFirst_48 : decode cX5_pourFirst 48 = .ok (.iload_n 2, 1) := by decide +kernel
theorem dX5_pourFirst_49 : decode cX5_pourFirst 49 = .ok (.istore_n 2, 1) := by decide +kernel
theorem dX5_pourFirst_50 : decode cX5_pourFirst 50 = .ok (.iload 4, 2) := by decide +kernel
theorem dX5_pourFirst_52 : decode cX5_pourFirst 52 = .ok (.iload_n 1, 1) := by decide +kernel
theorem dX5_pourFirst_53 : decode cX5_pourFirst 53 = .ok (.if_icmp .le 8, 3) := by decide +kernel
theorem dX5_pourFirst_56 : decode cX5_pourFirst 56 = .ok (.iload 4, 2) := by decide +kernel
theorem dX5_pourFirst_58 : decode cX5_pourFirst 58 = .ok (.goto 4, 3) := by decide +kernel
theorem dX5_pourFirst_61 : decode cX5_pourFirst 61 = .ok (.iload_n 1, 1) := by decide +kernel
theorem dX5_pourFirst_62 : decode cX5_pourFirst 62 = .ok (.istore_n 1, 1) := by decide +kernel
theorem dX5_pourFirst_63 : decode cX5_pourFirst 63 = .ok (.iinc 3 1, 3) := by decide +kernel
theorem dX5_pourFirst_66 : decode cX5_pourFirst 66 = .ok (.goto (-47), 3) := by decide +kernel
theorem dX5_pourFirst_69 : decode cX5_pourFirst 69 = .ok (.iload_n 2, 1) := by decide +kernel
theorem dX5_pourFirst_70 : decode cX5_pourFirst 70 = .ok (.ireturn, 1) := by decide +kernel
theorem dX5_pourFewest_0 : decode cX5_pourFewest 0 = .ok (.aload_n 0, 1) := by decide +kernel
theorem dX5_pourFewest_1 : decode cX5_pourFewest 1 = .ok (.iconst 0, 1) := by decide +kernel
theorem dX5_pourFewest_2 : decode cX5_pourFewest 2 = .ok (.putfield 92, 3) := by decide +kernel
theorem dX5_pourFewest_5 : decode cX5_pourFewest 5 = .ok (.aload_n 0, 1) := by decide +kernel
theorem dX5_pourFewest_6 : decode cX5_pourFewest 6 = .ok (.iload_n 1, 1) := by decide +kernel
theorem dX5_pourFewest_7 : decode cX5_pourFewest 7 = .ok (.invokevirtual 192, 3) := by decide +kernel
theorem dX5_pourFewest_10 : decode cX5_pourFewest 10 = .ok (.ifCond .ne 7, 3) := by decide +kernel
theorem dX5_pourFewest_13 : decode cX5_pourFewest 13 = .ok (.iconst (-1), 1) := by decide +kernel
theorem dX5_pourFewest_14 : decode cX5_pourFewest 14 = .ok (.goto 18, 3) := by decide +kernel
theorem dX5_pourFewest_17 : decode cX5_pourFewest 17 = .ok (.aload_n 0, 1) := by decide +kernel
theorem dX5_pourFewest_18 : decode cX5_pourFewest 18 = .ok (.getfield 44, 3) := by decide +kernel
theorem dX5_pourFewest_21 : decode cX5_pourFewest 21 = .ok (.iload_n 1, 1) := by decide +kernel
theorem dX5_pourFewest_22 : decode cX5_pourFewest 22 = .ok (.iaload, 1) := by decide +kernel
theorem dX5_pourFewest_23 : decode cX5_pourFewest 23 = .ok (.ifCond .eq 8, 3) := by decide +kernel
theorem dX5_pourFewest_26 : decode cX5_pourFewest 26 = .ok (.bipush (-3), 2) := by decide +kernel
theorem dX5_pourFewest_28 : decode cX5_pourFewest 28 = .ok (.goto 4, 3) := by decide +kernel
theorem dX5_pourFewest_31 : decode cX5_pourFewest 31 = .ok (.iconst 0, 1) := by decide +kernel
theorem dX5_pourFewest_32 : decode cX5_pourFewest 32 = .ok (.istore_n 2, 1) := by decide +kernel
theorem dX5_pourFewest_33 : decode cX5_pourFewest 33 = .ok (.iload_n 2, 1) := by decide +kernel
theorem dX5_pourFewest_34 : decode cX5_pourFewest 34 = .ok (.ifCond .ge 9, 3) := by decide +kernel
theorem dX5_pourFewest_37 : decode cX5_pourFewest 37 = .ok (.aload_n 0, 1) := by decide +kernel
theorem dX5_pourFewest_38 : decode cX5_pourFewest 38 = .ok (.iload_n 2, 1) := by decide +kernel
theorem dX5_pourFewest_39 : decode cX5_pourFewest 39 = .ok (.invokevirtual 139, 3) := by decide +kernel
theorem dX5_pourFewest_42 : decode cX5_pourFewest 42 = .ok (.ireturn, 1) := by decide +kernel
theorem dX5_pourFewest_43 : decode cX5_pourFewest 43 = .ok (.bipush (-9), 2) := by decide +kernel
theorem dX5_pourFewest_45 : decode cX5_pourFewest 45 = .ok (.istore_n 3, 1) := by decide +kernel
theorem dX5_pourFewest_46 : decode cX5_pourFewest 46 = .ok (.aload_n 0, 1) := by decide +kernel
theorem dX5_pourFewest_47 : decode cX5_pourFewest 47 = .ok (.invokevirtual 203, 3) := by decide +kernel
theorem dX5_pourFewest_50 : decode cX5_pourFewest 50 = .ok (.iconst 0, 1) := by decide +kernel
theorem dX5_pourFewest_51 : decode cX5_pourFewest 51 = .ok (.istore 4, 2) := by decide +kernel
theorem dX5_pourFewest_53 : decode cX5_pourFewest 53 = .ok (.iload 4, 2) := by decide +kernel
theorem dX5_pourFewest_55 : decode cX5_pourFewest 55 = .ok (.iconst 1, 1) := by decide +kernel
theorem dX5_pourFewest_56 : decode cX5_pourFewest 56 = .ok (.aload_n 0, 1) := by decide +kernel
theorem dX5_pourFewest_57 : decode cX5_pourFewest 57 = .ok (.getfield 7, 3) := by decide +kernel
theorem dX5_pourFewest_60 : decode cX5_pourFewest 60 = .ok (.ishl, 1) := by decide +kernel
theorem dX5_pourFewest_61 : decode cX5_pourFewest 61 = .ok (.if_icmp .ge 86, 3) := by decide +kernel
theorem dX5_pourFewest_64 : decode cX5_pourFewest 64 = .ok (.iload 4, 2) := by decide +kernel
theorem dX5_pourFewest_66 : decode cX5_pourFewest 66 = .ok (.invokestatic 261, 3) := by decide +kernel
theorem dX5_pourFewest_69 : decode cX5_pourFewest 69 = .ok (.istore 5, 2) := by decide +kernel
theorem dX5_pourFewest_71 : decode cX5_pourFewest 71 = .ok (.iload 5, 2) := by decide +kernel
theorem dX5_pourFewest_73 : decode cX5_pourFewest 73 = .ok (.iconst 3, 1) := by decide +kernel
theorem dX5_pourFewest_74 : decode cX5_pourFewest 74 = .ok (.if_icmp .gt 67, 3) := by decide +kernel
theorem dX5_pourFewest_77 : decode cX5_pourFewest 77 = .ok (.iload_n 3, 1) := by decide +kernel
theorem dX5_pourFewest_78 : decode cX5_pourFewest 78 = .ok (.ifCond .lt 12, 3) := by decide +kernel
theorem dX5_pourFewest_81 : decode cX5_pourFewest 81 = .ok (.iload 5, 2) := by decide +kernel
theorem dX5_pourFewest_83 : decode cX5_pourFewest 83 = .ok (.iload_n 3, 1) := by decide +kernel
theorem dX5_pourFewest_84 : decode cX5_pourFewest 84 = .ok (.invokestatic 261, 3) := by decide +kernel
theorem dX5_pourFewest_87 : decode cX5_pourFewest 87 = .ok (.if_icmp .ge 54, 3) := by decide +kernel
theorem dX5_pourFewest_90 : decode cX5_pourFewest 90 = .ok (.iconst 0, 1) := by decide +kernel
theorem dX5_pourFewest_91 : decode cX5_pourFewest 91 = .ok (.istore 6, 2) := by decide +kernel
theorem dX5_pourFewest_93 : decode cX5_pourFewest 93 = .ok (.iload 6, 2) := by decide +kernel
theorem dX5_pourFewest_95 : decode cX5_pourFewest 95 = .ok (.aload_n 0, 1) := by decide +kernel
theorem dX5_pourFewest_96 : decode cX5_pourFewest 96 = .ok (.getfield 7, 3) := by decide +kernel
theorem dX5_pourFewest_99 : decode cX5_pourFewest 99 = .ok (.if_icmp .ge 25, 3) := by decide +kernel
theorem dX5_pourFewest_102 : decode cX5_pourFewest 102 = .ok (.iload 4, 2) := by decide +kernel
theorem dX5_pourFewest_104 : decode cX5_pourFewest 104 = .ok (.iload 6, 2) := by decide +kernel
theorem dX5_pourFewest_106 : decode cX5_pourFewest 106 = .ok (.invokestatic 136, 3) := by decide +kernel
theorem dX5_pourFewest_109 : decode cX5_pourFewest 109 = .ok (.ifCond .eq 9, 3) := by decide +kernel
theorem dX5_pourFewest_112 : decode cX5_pourFewest 112 = .ok (.aload_n 0, 1) := by decide +kernel
theorem dX5_pourFewest_113 : decode cX5_pourFewest 113 = .ok (.iload 6, 2) := by decide +kernel
theorem dX5_pourFewest_115 : decode cX5_pourFewest 115 = .ok (.invokevirtual 258, 3) := by decide +kernel
theorem dX5_pourFewest_118 : decode cX5_pourFewest 118 = .ok (.iinc 6 1, 3) := by decide +kernel
theorem dX5_pourFewest_121 : decode cX5_pourFewest 121 = .ok (.goto (-28), 3) := by decide +kernel
theorem dX5_pourFewest_124 : decode cX5_pourFewest 124 = .ok (.aload_n 0, 1) := by decide +kernel
theorem dX5_pourFewest_125 : decode cX5_pourFewest 125 = .ok (.iload_n 1, 1) := by decide +kernel
theorem dX5_pourFewest_126 : decode cX5_pourFewest 126 = .ok (.invokevirtual 252, 3) := by decide +kernel
theorem dX5_pourFewest_129 : decode cX5_pourFewest 129 = .ok (.bipush 99, 2) := by decide +kernel
theorem dX5_pourFewest_131 : decode cX5_pourFewest 131 = .ok (.if_icmp .ge 8, 3) := by decide +kernel
theorem dX5_pourFewest_134 : decode cX5_pourFewest 134 = .ok (.iload 4, 2) := by decide +kernel
theorem dX5_pourFewest_136 : decode cX5_pourFewest 136 = .ok (.goto 4, 3) := by decide +kernel
theorem dX5_pourFewest_139 : decode cX5_pourFewest 139 = .ok (.iload_n 3, 1) := by decide +kernel
theorem dX5_pourFewest_140 : decode cX5_pourFewest 140 = .ok (.istore_n 3, 1) := by decide +kernel
theorem dX5_pourFewest_141 : decode cX5_pourFewest 141 = .ok (.iinc 4 1, 3) := by decide +kernel
theorem dX5_pourFewest_144 : decode cX5_pourFewest 144 = .ok (.goto (-91), 3) := by decide +kernel
theorem dX5_pourFewest_147 : decode cX5_pourFewest 147 = .ok (.iload_n 3, 1) := by decide +kernel
theorem dX5_pourFewest_148 : decode cX5_pourFewest 148 = .ok (.ireturn, 1) := by decide +kernel
theorem dX5_weakestYard_0 : decode cX5_weakestYard 0 = .ok (.iconst 0, 1) := by decide +kernel
theorem dX5_weakestYard_1 : decode cX5_weakestYard 1 = .ok (.istore_n 1, 1) := by decide +kernel
theorem dX5_weakestYard_2 : decode cX5_weakestYard 2 = .ok (.iconst 1, 1) := by decide +kernel
theorem dX5_weakestYard_3 : decode cX5_weakestYard 3 = .ok (.istore_n 2, 1) := by decide +kernel
theorem dX5_weakestYard_4 : decode cX5_weakestYard 4 = .ok (.iload_n 2, 1) := by decide +kernel
theorem dX5_weakestYard_5 : decode cX5_weakestYard 5 = .ok (.aload_n 0, 1) := by decide +kernel
theorem dX5_weakestYard_6 : decode cX5_weakestYard 6 = .ok (.getfield 7, 3) := by decide +kernel
theorem dX5_weakestYard_9 : decode cX5_weakestYard 9 = .ok (.if_icmp .ge 30, 3) := by decide +kernel
theorem dX5_weakestYard_12 : decode cX5_weakestYard 12 = .ok (.aload_n 0, 1) := by decide +kernel
theorem dX5_weakestYard_13 : decode cX5_weakestYard 13 = .ok (.getfield 20, 3) := by decide +kernel
theorem dX5_weakestYard_16 : decode cX5_weakestYard 16 = .ok (.iload_n 2, 1) := by decide +kernel
theorem dX5_weakestYard_17 : decode cX5_weakestYard 17 = .ok (.iaload, 1) := by decide +kernel
theorem dX5_weakestYard_18 : decode cX5_weakestYard 18 = .ok (.aload_n 0, 1) := by decide +kernel
theorem dX5_weakestYard_19 : decode cX5_weakestYard 19 = .ok (.getfield 20, 3) := by decide +kernel
theorem dX5_weakestYard_22 : decode cX5_weakestYard 22 = .ok (.iload_n 1, 1) := by decide +kernel
theorem dX5_weakestYard_23 : decode cX5_weakestYard 23 = .ok (.iaload, 1) := by decide +kernel
theorem dX5_weakestYard_24 : decode cX5_weakestYard 24 = .ok (.if_icmp .ge 7, 3) := by decide +kernel
theorem dX5_weakestYard_27 : decode cX5_weakestYard 27 = .ok (.iload_n 2, 1) := by decide +kernel
theorem dX5_weakestYard_28 : decode cX5_weakestYard 28 = .ok (.goto 4, 3) := by decide +kernel
theorem dX5_weakestYard_31 : decode cX5_weakestYard 31 = .ok (.iload_n 1, 1) := by decide +kernel
theorem dX5_weakestYard_32 : decode cX5_weakestYard 32 = .ok (.istore_n 1, 1) := by decide +kernel
theorem dX5_weakestYard_33 : decode cX5_weakestYard 33 = .ok (.iinc 2 1, 3) := by decide +kernel
theorem dX5_weakestYard_36 : decode cX5_weakestYard 36 = .ok (.goto (-32), 3) := by decide +kernel
theorem dX5_weakestYard_39 : decode cX5_weakestYard 39 = .ok (.iload_n 1, 1) := by decide +kernel
theorem dX5_weakestYard_40 : decode cX5_weakestYard 40 = .ok (.ireturn, 1) := by decide +kernel
theorem dX5_allBear_0 : decode cX5_allBear 0 = .ok (.iconst 1, 1) := by decide +kernel
theorem dX5_allBear_1 : decode cX5_allBear 1 = .ok (.istore_n 2, 1) := by decide +kernel
theorem dX5_allBear_2 : decode cX5_allBear 2 = .ok (.iconst 0, 1) := by decide +kernel
theorem dX5_allBear_3 : decode cX5_allBear 3 = .ok (.istore_n 3, 1) := by decide +kernel
theorem dX5_allBear_4 : decode cX5_allBear 4 = .ok (.iload_n 3, 1) := by decide +kernel
theorem dX5_allBear_5 : decode cX5_allBear 5 = .ok (.aload_n 0, 1) := by decide +kernel
theorem dX5_allBear_6 : decode cX5_allBear 6 = .ok (.getfield 7, 3) := by decide +kernel
theorem dX5_allBear_9 : decode cX5_allBear 9 = .ok (.if_icmp .ge 28, 3) := by decide +kernel
theorem dX5_allBear_12 : decode cX5_allBear 12 = .ok (.iload_n 2, 1) := by decide +kernel
theorem dX5_allBear_13 : decode cX5_allBear 13 = .ok (.ifCond .eq 16, 3) := by decide +kernel
theorem dX5_allBear_16 : decode cX5_allBear 16 = .ok (.aload_n 0, 1) := by decide +kernel
theorem dX5_allBear_17 : decode cX5_allBear 17 = .ok (.iload_n 3, 1) := by decide +kernel
theorem dX5_allBear_18 : decode cX5_allBear 18 = .ok (.iload_n 1, 1) := by decide +kernel
theorem dX5_allBear_19 : decode cX5_allBear 19 = .ok (.invokevirtual 110, 3) := by decide +kernel
theorem dX5_allBear_22 : decode cX5_allBear 22 = .ok (.ifCond .eq 7, 3) := by decide +kernel
theorem dX5_allBear_25 : decode cX5_allBear 25 = .ok (.iconst 1, 1) := by decide +kernel
theorem dX5_allBear_26 : decode cX5_allBear 26 = .ok (.goto 4, 3) := by decide +kernel
theorem dX5_allBear_29 : decode cX5_allBear 29 = .ok (.iconst 0, 1) := by decide +kernel
theorem dX5_allBear_30 : decode cX5_allBear 30 = .ok (.istore_n 2, 1) := by decide +kernel
theorem dX5_allBear_31 : decode cX5_allBear 31 = .ok (.iinc 3 1, 3) := by decide +kernel
theorem dX5_allBear_34 : decode cX5_allBear 34 = .ok (.goto (-30), 3) := by decide +kernel
theorem dX5_allBear_37 : decode cX5_allBear 37 = .ok (.iload_n 2, 1) := by decide +kernel
theorem dX5_allBear_38 : decode cX5_allBear 38 = .ok (.ireturn, 1) := by decide +kernel
theorem dX5_strongest_0 : decode cX5_strongest 0 = .ok (.aload_n 0, 1) := by decide +kernel
theorem dX5_strongest_1 : decode cX5_strongest 1 = .ok (.iconst 0, 1) := by decide +kernel
theorem dX5_strongest_2 : decode cX5_strongest 2 = .ok (.putfield 92, 3) := by decide +kernel
theorem dX5_strongest_5 : decode cX5_strongest 5 = .ok (.iload_n 1, 1) := by decide +kernel
theorem dX5_strongest_6 : decode cX5_strongest 6 = .ok (.iconst 1, 1) := by decide +kernel
theorem dX5_strongest_7 : decode cX5_strongest 7 = .ok (.bipush 60, 2) := by decide +kernel
theorem dX5_strongest_9 : decode cX5_strongest 9 = .ok (.invokestatic 236, 3) := by decide +kernel
theorem dX5_strongest_12 : decode cX5_strongest 12 = .ok (.ifCond .ge 15, 3) := by decide +kernel
theorem dX5_strongest_15 : decode cX5_strongest 15 = .ok (.aload_n 0, 1) := by decide +kernel
theorem dX5_strongest_16 : decode cX5_strongest 16 = .ok (.iload_n 1, 1) := by decide +kernel
theorem dX5_strongest_17 : decode cX5_strongest 17 = .ok (.iconst 1, 1) := by decide +kernel
theorem dX5_strongest_18 : decode cX5_strongest 18 = .ok (.bipush 60, 2) := by decide +kernel
theorem dX5_strongest_20 : decode cX5_strongest 20 = .ok (.invokestatic 236, 3) := by decide +kernel
theorem dX5_strongest_23 : decode cX5_strongest 23 = .ok (.invokevirtual 139, 3) := by decide +kernel
theorem dX5_strongest_26 : decode cX5_strongest 26 = .ok (.ireturn, 1) := by decide +kernel
theorem dX5_strongest_27 : decode cX5_strongest 27 = .ok (.iconst 0, 1) := by decide +kernel
theorem dX5_strongest_28 : decode cX5_strongest 28 = .ok (.istore_n 2, 1) := by decide +kernel
theorem dX5_strongest_29 : decode cX5_strongest 29 = .ok (.aload_n 0, 1) := by decide +kernel
theorem dX5_strongest_30 : decode cX5_strongest 30 = .ok (.invokevirtual 203, 3) := by decide +kernel
theorem dX5_strongest_33 : decode cX5_strongest 33 = .ok (.iload_n 2, 1) := by decide +kernel
theorem dX5_strongest_34 : decode cX5_strongest 34 = .ok (.bipush 20, 2) := by decide +kernel
theorem dX5_strongest_36 : decode cX5_strongest 36 = .ok (.if_icmp .ge 25, 3) := by decide +kernel
theorem dX5_strongest_39 : decode cX5_strongest 39 = .ok (.aload_n 0, 1) := by decide +kernel
theorem dX5_strongest_40 : decode cX5_strongest 40 = .ok (.iload_n 1, 1) := by decide +kernel
theorem dX5_strongest_41 : decode cX5_strongest 41 = .ok (.invokevirtual 264, 3) := by decide +kernel
theorem dX5_strongest_44 : decode cX5_strongest 44 = .ok (.ifCond .ne 17, 3) := by decide +kernel
theorem dX5_strongest_47 : decode cX5_strongest 47 = .ok (.aload_n 0, 1) := by decide +kernel
theorem dX5_strongest_48 : decode cX5_strongest 48 = .ok (.aload_n 0, 1) := by decide +kernel
theorem dX5_strongest_49 : decode cX5_strongest 49 = .ok (.invokevirtual 267, 3) := by decide +kernel
theorem dX5_strongest_52 : decode cX5_strongest 52 = .ok (.invokevirtual 258, 3) := by decide +kernel
theorem dX5_strongest_55 : decode cX5_strongest 55 = .ok (.iinc 2 1, 3) := by decide +kernel
theorem dX5_strongest_58 : decode cX5_strongest 58 = .ok (.goto (-25), 3) := by decide +kernel
theorem dX5_strongest_61 : decode cX5_strongest 61 = .ok (.aload_n 0, 1) := by decide +kernel
theorem dX5_strongest_62 : decode cX5_strongest 62 = .ok (.iload_n 1, 1) := by decide +kernel
theorem dX5_strongest_63 : decode cX5_strongest 63 = .ok (.invokevirtual 264, 3) := by decide +kernel
theorem dX5_strongest_66 : decode cX5_strongest 66 = .ok (.istore_n 3, 1) := by decide +kernel
theorem dX5_strongest_67 : decode cX5_strongest 67 = .ok (.aload_n 0, 1) := by decide +kernel
theorem dX5_strongest_68 : decode cX5_strongest 68 = .ok (.invokevirtual 209, 3) := by decide +kernel
theorem dX5_strongest_71 : decode cX5_strongest 71 = .ok (.iload_n 3, 1) := by decide +kernel
theorem dX5_strongest_72 : decode cX5_strongest 72 = .ok (.ifCond .eq 7, 3) := by decide +kernel
theorem dX5_strongest_75 : decode cX5_strongest 75 = .ok (.iload_n 2, 1) := by decide +kernel
theorem dX5_strongest_76 : decode cX5_strongest 76 = .ok (.goto 5, 3) := by decide +kernel
theorem dX5_strongest_79 : decode cX5_strongest 79 = .ok (.bipush (-9), 2) := by decide +kernel
theorem dX5_strongest_81 : decode cX5_strongest 81 = .ok (.ireturn, 1) := by decide +kernel
theorem dX5_ordersOf_0 : decode cX5_ordersOf 0 = .ok (.iconst 1, 1) := by decide +kernel
theorem dX5_ordersOf_1 : decode cX5_ordersOf 1 = .ok (.istore_n 1, 1) := by decide +kernel
theorem dX5_ordersOf_2 : decode cX5_ordersOf 2 = .ok (.iconst 2, 1) := by decide +kernel
theorem dX5_ordersOf_3 : decode cX5_ordersOf 3 = .ok (.istore_n 2, 1) := by decide +kernel
theorem dX5_ordersOf_4 : decode cX5_ordersOf 4 = .ok (.iload_n 2, 1) := by decide +kernel
theorem dX5_ordersOf_5 : decode cX5_ordersOf 5 = .ok (.iload_n 0, 1) := by decide +kernel
theorem dX5_ordersOf_6 : decode cX5_ordersOf 6 = .ok (.if_icmp .gt 13, 3) := by decide +kernel
theorem dX5_ordersOf_9 : decode cX5_ordersOf 9 = .ok (.iload_n 1, 1) := by decide +kernel
theorem dX5_ordersOf_10 : decode cX5_ordersOf 10 = .ok (.iload_n 2, 1) := by decide +kernel
theorem dX5_ordersOf_11 : decode cX5_ordersOf 11 = .ok (.imul, 1) := by decide +kernel
theorem dX5_ordersOf_12 : decode cX5_ordersOf 12 = .ok (.istore_n 1, 1) := by decide +kernel
theorem dX5_ordersOf_13 : decode cX5_ordersOf 13 = .ok (.iinc 2 1, 3) := by decide +kernel
theorem dX5_ordersOf_16 : decode cX5_ordersOf 16 = .ok (.goto (-12), 3) := by decide +kernel
theorem dX5_ordersOf_19 : decode cX5_ordersOf 19 = .ok (.iload_n 1, 1) := by decide +kernel
theorem dX5_ordersOf_20 : decode cX5_ordersOf 20 = .ok (.ireturn, 1) := by decide +kernel
theorem dX5_layOrder_0 : decode cX5_layOrder 0 = .ok (.iload_n 1, 1) := by decide +kernel
theorem dX5_layOrder_1 : decode cX5_layOrder 1 = .ok (.istore_n 3, 1) := by decide +kernel
theorem dX5_layOrder_2 : decode cX5_layOrder 2 = .ok (.iconst 0, 1) := by decide +kernel
theorem dX5_layOrder_3 : decode cX5_layOrder 3 = .ok (.istore 4, 2) := by decide +kernel
theorem dX5_layOrder_5 : decode cX5_layOrder 5 = .ok (.iconst 0, 1) := by decide +kernel
theorem dX5_layOrder_6 : decode cX5_layOrder 6 = .ok (.istore 5, 2) := by decide +kernel
theorem dX5_layOrder_8 : decode cX5_layOrder 8 = .ok (.iload 5, 2) := by decide +kernel
theorem dX5_layOrder_10 : decode cX5_layOrder 10 = .ok (.iload_n 2, 1) := by decide +kernel
theorem dX5_layOrder_11 : decode cX5_layOrder 11 = .ok (.if_icmp .ge 93, 3) := by decide +kernel
theorem dX5_layOrder_14 : decode cX5_layOrder 14 = .ok (.iload_n 2, 1) := by decide +kernel
theorem dX5_layOrder_15 : decode cX5_layOrder 15 = .ok (.iconst 1, 1) := by decide +kernel
theorem dX5_layOrder_16 : decode cX5_layOrder 16 = .ok (.isub, 1) := by decide +kernel
theorem dX5_layOrder_17 : decode cX5_layOrder 17 = .ok (.iload 5, 2) := by decide +kernel
theorem dX5_layOrder_19 : decode cX5_layOrder 19 = .ok (.isub, 1) := by decide +kernel
theorem dX5_layOrder_20 : decode cX5_layOrder 20 = .ok (.invokestatic 270, 3) := by decide +kernel
theorem dX5_layOrder_23 : decode cX5_layOrder 23 = .ok (.istore 6, 2) := by decide +kernel
theorem dX5_layOrder_25 : decode cX5_layOrder 25 = .ok (.iload_n 3, 1) := by decide +kernel
theorem dX5_layOrder_26 : decode cX5_layOrder 26 = .ok (.iload 6, 2) := by decide +kernel
theorem dX5_layOrder_28 : decode cX5_layOrder 28 = .ok (.idiv, 1) := by decide +kernel
theorem dX5_layOrder_29 : decode cX5_layOrder 29 = .ok (.istore 7, 2) := by decide +kernel
theorem dX5_layOrder_31 : decode cX5_layOrder 31 = .ok (.iload_n 3, 1) := by decide +kernel
theorem dX5_layOrder_32 : decode cX5_layOrder 32 = .ok (.iload 6, 2) := by decide +kernel
theorem dX5_layOrder_34 : decode cX5_layOrder 34 = .ok (.irem, 1) := by decide +kernel
theorem dX5_layOrder_35 : decode cX5_layOrder 35 = .ok (.istore_n 3, 1) := by decide +kernel
theorem dX5_layOrder_36 : decode cX5_layOrder 36 = .ok (.iconst 0, 1) := by decide +kernel
theorem dX5_layOrder_37 : decode cX5_layOrder 37 = .ok (.istore 8, 2) := by decide +kernel
theorem dX5_layOrder_39 : decode cX5_layOrder 39 = .ok (.iload 4, 2) := by decide +kernel
theorem dX5_layOrder_41 : decode cX5_layOrder 41 = .ok (.iload 8, 2) := by decide +kernel
theorem dX5_layOrder_43 : decode cX5_layOrder 43 = .ok (.invokestatic 136, 3) := by decide +kernel
theorem dX5_layOrder_46 : decode cX5_layOrder 46 = .ok (.ifCond .ne 8, 3) := by decide +kernel
theorem dX5_layOrder_49 : decode cX5_layOrder 49 = .ok (.iload 7, 2) := by decide +kernel
theorem dX5_layOrder_51 : decode cX5_layOrder 51 = .ok (.ifCond .le 29, 3) := by decide +kernel
theorem dX5_layOrder_54 : decode cX5_layOrder 54 = .ok (.iload 7, 2) := by decide +kernel
theorem dX5_layOrder_56 : decode cX5_layOrder 56 = .ok (.iload 4, 2) := by decide +kernel
theorem dX5_layOrder_58 : decode cX5_layOrder 58 = .ok (.iload 8, 2) := by decide +kernel
theorem dX5_layOrder_60 : decode cX5_layOrder 60 = .ok (.invokestatic 136, 3) := by decide +kernel
theorem dX5_layOrder_63 : decode cX5_layOrder 63 = .ok (.ifCond .eq 7, 3) := by decide +kernel
theorem dX5_layOrder_66 : decode cX5_layOrder 66 = .ok (.iconst 0, 1) := by decide +kernel
theorem dX5_layOrder_67 : decode cX5_layOrder 67 = .ok (.goto 4, 3) := by decide +kernel
theorem dX5_layOrder_70 : decode cX5_layOrder 70 = .ok (.iconst 1, 1) := by decide +kernel
theorem dX5_layOrder_71 : decode cX5_layOrder 71 = .ok (.isub, 1) := by decide +kernel
theorem dX5_layOrder_72 : decode cX5_layOrder 72 = .ok (.istore 7, 2) := by decide +kernel
theorem dX5_layOrder_74 : decode cX5_layOrder 74 = .ok (.iinc 8 1, 3) := by decide +kernel
theorem dX5_layOrder_77 : decode cX5_layOrder 77 = .ok (.goto (-38), 3) := by decide +kernel
theorem dX5_layOrder_80 : decode cX5_layOrder 80 = .ok (.aload_n 0, 1) := by decide +kernel
theorem dX5_layOrder_81 : decode cX5_layOrder 81 = .ok (.getfield 86, 3) := by decide +kernel
theorem dX5_layOrder_84 : decode cX5_layOrder 84 = .ok (.iload 5, 2) := by decide +kernel
theorem dX5_layOrder_86 : decode cX5_layOrder 86 = .ok (.iload 8, 2) := by decide +kernel
theorem dX5_layOrder_88 : decode cX5_layOrder 88 = .ok (.iastore, 1) := by decide +kernel
theorem dX5_layOrder_89 : decode cX5_layOrder 89 = .ok (.iload 4, 2) := by decide +kernel
theorem dX5_layOrder_91 : decode cX5_layOrder 91 = .ok (.iconst 1, 1) := by decide +kernel
theorem dX5_layOrder_92 : decode cX5_layOrder 92 = .ok (.iload 8, 2) := by decide +kernel
theorem dX5_layOrder_94 : decode cX5_layOrder 94 = .ok (.ishl, 1) := by decide +kernel
theorem dX5_layOrder_95 : decode cX5_layOrder 95 = .ok (.ior, 1) := by decide +kernel
theorem dX5_layOrder_96 : decode cX5_layOrder 96 = .ok (.istore 4, 2) := by decide +kernel
theorem dX5_layOrder_98 : decode cX5_layOrder 98 = .ok (.iinc 5 1, 3) := by decide +kernel
theorem dX5_layOrder_101 : decode cX5_layOrder 101 = .ok (.goto (-93), 3) := by decide +kernel
theorem dX5_layOrder_104 : decode cX5_layOrder 104 = .ok (.return_, 1) := by decide +kernel
theorem dX5_order_0 : decode cX5_order 0 = .ok (.aload_n 0, 1) := by decide +kernel
theorem dX5_order_1 : decode cX5_order 1 = .ok (.iconst 0, 1) := by decide +kernel
theorem dX5_order_2 : decode cX5_order 2 = .ok (.putfield 92, 3) := by decide +kernel
theorem dX5_order_5 : decode cX5_order 5 = .ok (.iconst 0, 1) := by decide +kernel
theorem dX5_order_6 : decode cX5_order 6 = .ok (.istore_n 2, 1) := by decide +kernel
theorem dX5_order_7 : decode cX5_order 7 = .ok (.iconst 0, 1) := by decide +kernel
theorem dX5_order_8 : decode cX5_order 8 = .ok (.istore_n 3, 1) := by decide +kernel
theorem dX5_order_9 : decode cX5_order 9 = .ok (.iload_n 3, 1) := by decide +kernel
theorem dX5_order_10 : decode cX5_order 10 = .ok (.aload_n 0, 1) := by decide +kernel
theorem dX5_order_11 : decode cX5_order 11 = .ok (.getfield 99, 3) := by decide +kernel
theorem dX5_order_14 : decode cX5_order 14 = .ok (.if_icmp .ge 37, 3) := by decide +kernel
theorem dX5_order_17 : decode cX5_order 17 = .ok (.aload_n 0, 1) := by decide +kernel
theorem dX5_order_18 : decode cX5_order 18 = .ok (.getfield 44, 3) := by decide +kernel
theorem dX5_order_21 : decode cX5_order 21 = .ok (.iload_n 3, 1) := by decide +kernel
theorem dX5_order_22 : decode cX5_order 22 = .ok (.iaload, 1) := by decide +kernel
theorem dX5_order_23 : decode cX5_order 23 = .ok (.ifCond .ne 22, 3) := by decide +kernel
theorem dX5_order_26 : decode cX5_order 26 = .ok (.aload_n 0, 1) := by decide +kernel
theorem dX5_order_27 : decode cX5_order 27 = .ok (.getfield 38, 3) := by decide +kernel
theorem dX5_order_30 : decode cX5_order 30 = .ok (.iload_n 3, 1) := by decide +kernel
theorem dX5_order_31 : decode cX5_order 31 = .ok (.iaload, 1) := by decide +kernel
theorem dX5_order_32 : decode cX5_order 32 = .ok (.ifCond .ge 13, 3) := by decide +kernel
theorem dX5_order_35 : decode cX5_order 35 = .ok (.aload_n 0, 1) := by decide +kernel
theorem dX5_order_36 : decode cX5_order 36 = .ok (.getfield 80, 3) := by decide +kernel
theorem dX5_order_39 : decode cX5_order 39 = .ok (.iload_n 2, 1) := by decide +kernel
theorem dX5_order_40 : decode cX5_order 40 = .ok (.iload_n 3, 1) := by decide +kernel
theorem dX5_order_41 : decode cX5_order 41 = .ok (.iastore, 1) := by decide +kernel
theorem dX5_order_42 : decode cX5_order 42 = .ok (.iinc 2 1, 3) := by decide +kernel
theorem dX5_order_45 : decode cX5_order 45 = .ok (.iinc 3 1, 3) := by decide +kernel
theorem dX5_order_48 : decode cX5_order 48 = .ok (.goto (-39), 3) := by decide +kernel
theorem dX5_order_51 : decode cX5_order 51 = .ok (.iload_n 1, 1) := by decide +kernel
theorem dX5_order_52 : decode cX5_order 52 = .ok (.i2l, 1) := by decide +kernel
theorem dX5_order_53 : decode cX5_order 53 = .ok (.lconst 0, 1) := by decide +kernel
theorem dX5_order_54 : decode cX5_order 54 = .ok (.lconst 1, 1) := by decide +kernel
theorem dX5_order_55 : decode cX5_order 55 = .ok (.invokestatic 95, 3) := by decide +kernel
theorem dX5_order_58 : decode cX5_order 58 = .ok (.ifCond .ne 8, 3) := by decide +kernel
theorem dX5_order_61 : decode cX5_order 61 = .ok (.bipush (-2), 2) := by decide +kernel
theorem dX5_order_63 : decode cX5_order 63 = .ok (.goto 14, 3) := by decide +kernel
theorem dX5_order_66 : decode cX5_order 66 = .ok (.iload_n 2, 1) := by decide +kernel
theorem dX5_order_67 : decode cX5_order 67 = .ok (.iconst 4, 1) := by decide +kernel
theorem dX5_order_68 : decode cX5_order 68 = .ok (.if_icmp .le 8, 3) := by decide +kernel
theorem dX5_order_71 : decode cX5_order 71 = .ok (.bipush (-3), 2) := by decide +kernel
theorem dX5_order_73 : decode cX5_order 73 = .ok (.goto 4, 3) := by decide +kernel
theorem dX5_order_76 : decode cX5_order 76 = .ok (.iconst 0, 1) := by decide +kernel
theorem dX5_order_77 : decode cX5_order 77 = .ok (.istore_n 3, 1) := by decide +kernel
theorem dX5_order_78 : decode cX5_order 78 = .ok (.iload_n 3, 1) := by decide +kernel
theorem dX5_order_79 : decode cX5_order 79 = .ok (.ifCond .ge 9, 3) := by decide +kernel
theorem dX5_order_82 : decode cX5_order 82 = .ok (.aload_n 0, 1) := by decide +kernel
theorem dX5_order_83 : decode cX5_order 83 = .ok (.iload_n 3, 1) := by decide +kernel
theorem dX5_order_84 : decode cX5_order 84 = .ok (.invokevirtual 139, 3) := by decide +kernel
theorem dX5_order_87 : decode cX5_order 87 = .ok (.ireturn, 1) := by decide +kernel
theorem dX5_order_88 : decode cX5_order 88 = .ok (.iconst 0, 1) := by decide +kernel
theorem dX5_order_89 : decode cX5_order 89 = .ok (.istore 4, 2) := by decide +kernel
theorem dX5_order_91 : decode cX5_order 91 = .ok (.iload 4, 2) := by decide +kernel
theorem dX5_order_93 : decode cX5_order 93 = .ok (.iload_n 2, 1) := by decide +kernel
theorem dX5_order_94 : decode cX5_order 94 = .ok (.if_icmp .ge 99, 3) := by decide +kernel
theorem dX5_order_97 : decode cX5_order 97 = .ok (.aload_n 0, 1) := by decide +kernel
theorem dX5_order_98 : decode cX5_order 98 = .ok (.getfield 83, 3) := by decide +kernel
theorem dX5_order_101 : decode cX5_order 101 = .ok (.iconst 4, 1) := by decide +kernel
theorem dX5_order_102 : decode cX5_order 102 = .ok (.iload 4, 2) := by decide +kernel
theorem dX5_order_104 : decode cX5_order 104 = .ok (.imul, 1) := by decide +kernel
theorem dX5_order_105 : decode cX5_order 105 = .ok (.aload_n 0, 1) := by decide +kernel
theorem dX5_order_106 : decode cX5_order 106 = .ok (.getfield 29, 3) := by decide +kernel
theorem dX5_order_109 : decode cX5_order 109 = .ok (.aload_n 0, 1) := by decide +kernel
theorem dX5_order_110 : decode cX5_order 110 = .ok (.getfield 80, 3) := by decide +kernel
theorem dX5_order_113 : decode cX5_order 113 = .ok (.iload 4, 2) := by decide +kernel
theorem dX5_order_115 : decode cX5_order 115 = .ok (.iaload, 1) := by decide +kernel
theorem dX5_order_116 : decode cX5_order 116 = .ok (.iaload, 1) := by decide +kernel
theorem dX5_order_117 : decode cX5_order 117 = .ok (.iastore, 1) := by decide +kernel
theorem dX5_order_118 : decode cX5_order 118 = .ok (.aload_n 0, 1) := by decide +kernel
theorem dX5_order_119 : decode cX5_order 119 = .ok (.getfield 83, 3) := by decide +kernel
theorem dX5_order_122 : decode cX5_order 122 = .ok (.iconst 4, 1) := by decide +kernel
theorem dX5_order_123 : decode cX5_order 123 = .ok (.iload 4, 2) := by decide +kernel
theorem dX5_order_125 : decode cX5_order 125 = .ok (.imul, 1) := by decide +kernel
theorem dX5_order_126 : decode cX5_order 126 = .ok (.iconst 1, 1) := by decide +kernel
theorem dX5_order_127 : decode cX5_order 127 = .ok (.iadd, 1) := by decide +kernel
theorem dX5_order_128 : decode cX5_order 128 = .ok (.aload_n 0, 1) := by decide +kernel
theorem dX5_order_129 : decode cX5_order 129 = .ok (.getfield 32, 3) := by decide +kernel
theorem dX5_order_132 : decode cX5_order 132 = .ok (.aload_n 0, 1) := by decide +kernel
theorem dX5_order_133 : decode cX5_order 133 = .ok (.getfield 80, 3) := by decide +kernel
theorem dX5_order_136 : decode cX5_order 136 = .ok (.iload 4, 2) := by decide +kernel
theorem dX5_order_138 : decode cX5_order 138 = .ok (.iaload, 1) := by decide +kernel
theorem dX5_order_139 : decode cX5_order 139 = .ok (.iaload, 1) := by decide +kernel
theorem dX5_order_140 : decode cX5_order 140 = .ok (.iastore, 1) := by decide +kernel
theorem dX5_order_141 : decode cX5_order 141 = .ok (.aload_n 0, 1) := by decide +kernel
theorem dX5_order_142 : decode cX5_order 142 = .ok (.getfield 83, 3) := by decide +kernel
theorem dX5_order_145 : decode cX5_order 145 = .ok (.iconst 4, 1) := by decide +kernel
theorem dX5_order_146 : decode cX5_order 146 = .ok (.iload 4, 2) := by decide +kernel
theorem dX5_order_148 : decode cX5_order 148 = .ok (.imul, 1) := by decide +kernel
theorem dX5_order_149 : decode cX5_order 149 = .ok (.iconst 2, 1) := by decide +kernel
theorem dX5_order_150 : decode cX5_order 150 = .ok (.iadd, 1) := by decide +kernel
theorem dX5_order_151 : decode cX5_order 151 = .ok (.aload_n 0, 1) := by decide +kernel
theorem dX5_order_152 : decode cX5_order 152 = .ok (.getfield 35, 3) := by decide +kernel
theorem dX5_order_155 : decode cX5_order 155 = .ok (.aload_n 0, 1) := by decide +kernel
theorem dX5_order_156 : decode cX5_order 156 = .ok (.getfield 80, 3) := by decide +kernel
theorem dX5_order_159 : decode cX5_order 159 = .ok (.iload 4, 2) := by decide +kernel
theorem dX5_order_161 : decode cX5_order 161 = .ok (.iaload, 1) := by decide +kernel
theorem dX5_order_162 : decode cX5_order 162 = .ok (.iaload, 1) := by decide +kernel
theorem dX5_order_163 : decode cX5_order 163 = .ok (.iastore, 1) := by decide +kernel
theorem dX5_order_164 : decode cX5_order 164 = .ok (.aload_n 0, 1) := by decide +kernel
theorem dX5_order_165 : decode cX5_order 165 = .ok (.getfield 83, 3) := by decide +kernel
theorem dX5_order_168 : decode cX5_order 168 = .ok (.iconst 4, 1) := by decide +kernel
theorem dX5_order_169 : decode cX5_order 169 = .ok (.iload 4, 2) := by decide +kernel
theorem dX5_order_171 : decode cX5_order 171 = .ok (.imul, 1) := by decide +kernel
theorem dX5_order_172 : decode cX5_order 172 = .ok (.iconst 3, 1) := by decide +kernel
theorem dX5_order_173 : decode cX5_order 173 = .ok (.iadd, 1) := by decide +kernel
theorem dX5_order_174 : decode cX5_order 174 = .ok (.aload_n 0, 1) := by decide +kernel
theorem dX5_order_175 : decode cX5_order 175 = .ok (.getfield 41, 3) := by decide +kernel
theorem dX5_order_178 : decode cX5_order 178 = .ok (.aload_n 0, 1) := by decide +kernel
theorem dX5_order_179 : decode cX5_order 179 = .ok (.getfield 80, 3) := by decide +kernel
theorem dX5_order_182 : decode cX5_order 182 = .ok (.iload 4, 2) := by decide +kernel
theorem dX5_order_184 : decode cX5_order 184 = .ok (.iaload, 1) := by decide +kernel
theorem dX5_order_185 : decode cX5_order 185 = .ok (.iaload, 1) := by decide +kernel
theorem dX5_order_186 : decode cX5_order 186 = .ok (.iastore, 1) := by decide +kernel
theorem dX5_order_187 : decode cX5_order 187 = .ok (.iinc 4 1, 3) := by decide +kernel
theorem dX5_order_190 : decode cX5_order 190 = .ok (.goto (-99), 3) := by decide +kernel
theorem dX5_order_193 : decode cX5_order 193 = .ok (.bipush (-9), 2) := by decide +kernel
theorem dX5_order_195 : decode cX5_order 195 = .ok (.istore 4, 2) := by decide +kernel
theorem dX5_order_197 : decode cX5_order 197 = .ok (.iconst (-1), 1) := by decide +kernel
theorem dX5_order_198 : decode cX5_order 198 = .ok (.istore 5, 2) := by decide +kernel
theorem dX5_order_200 : decode cX5_order 200 = .ok (.iload_n 2, 1) := by decide +kernel
theorem dX5_order_201 : decode cX5_order 201 = .ok (.invokestatic 270, 3) := by decide +kernel
theorem dX5_order_204 : decode cX5_order 204 = .ok (.istore 6, 2) := by decide +kernel
theorem dX5_order_206 : decode cX5_order 206 = .ok (.aload_n 0, 1) := by decide +kernel
theorem dX5_order_207 : decode cX5_order 207 = .ok (.invokevirtual 203, 3) := by decide +kernel
theorem dX5_order_210 : decode cX5_order 210 = .ok (.iconst 0, 1) := by decide +kernel
theorem dX5_order_211 : decode cX5_order 211 = .ok (.istore 7, 2) := by decide +kernel
theorem dX5_order_213 : decode cX5_order 213 = .ok (.iload 7, 2) := by decide +kernel
theorem dX5_order_215 : decode cX5_order 215 = .ok (.iload 6, 2) := by decide +kernel
theorem dX5_order_217 : decode cX5_order 217 = .ok (.if_icmp .ge 191, 3) := by decide +kernel
theorem dX5_order_220 : decode cX5_order 220 = .ok (.aload_n 0, 1) := by decide +kernel
theorem dX5_order_221 : decode cX5_order 221 = .ok (.iload 7, 2) := by decide +kernel
theorem dX5_order_223 : decode cX5_order 223 = .ok (.iload_n 2, 1) := by decide +kernel
theorem dX5_order_224 : decode cX5_order 224 = .ok (.invokevirtual 273, 3) := by decide +kernel
theorem dX5_order_227 : decode cX5_order 227 = .ok (.iconst 0, 1) := by decide +kernel
theorem dX5_order_228 : decode cX5_order 228 = .ok (.istore 8, 2) := by decide +kernel
theorem dX5_order_230 : decode cX5_order 230 = .ok (.iconst 0, 1) := by decide +kernel
theorem dX5_order_231 : decode cX5_order 231 = .ok (.istore 9, 2) := by decide +kernel
theorem dX5_order_233 : decode cX5_order 233 = .ok (.iload 9, 2) := by decide +kernel
theorem dX5_order_235 : decode cX5_order 235 = .ok (.iload_n 2, 1) := by decide +kernel
theorem dX5_order_236 : decode cX5_order 236 = .ok (.if_icmp .ge 128, 3) := by decide +kernel
theorem dX5_order_239 : decode cX5_order 239 = .ok (.aload_n 0, 1) := by decide +kernel
theorem dX5_order_240 : decode cX5_order 240 = .ok (.getfield 80, 3) := by decide +kernel
theorem dX5_order_243 : decode cX5_order 243 = .ok (.iload 9, 2) := by decide +kernel
theorem dX5_order_245 : decode cX5_order 245 = .ok (.iaload, 1) := by decide +kernel
theorem dX5_order_246 : decode cX5_order 246 = .ok (.istore 10, 2) := by decide +kernel
theorem dX5_order_248 : decode cX5_order 248 = .ok (.aload_n 0, 1) := by decide +kernel
theorem dX5_order_249 : decode cX5_order 249 = .ok (.getfield 29, 3) := by decide +kernel
theorem dX5_order_252 : decode cX5_order 252 = .ok (.iload 10, 2) := by decide +kernel
theorem dX5_order_254 : decode cX5_order 254 = .ok (.aload_n 0, 1) := by decide +kernel
theorem dX5_order_255 : decode cX5_order 255 = .ok (.getfield 83, 3) := by decide +kernel
theorem dX5_order_258 : decode cX5_order 258 = .ok (.iconst 4, 1) := by decide +kernel
theorem dX5_order_259 : decode cX5_order 259 = .ok (.aload_n 0, 1) := by decide +kernel
theorem dX5_order_260 : decode cX5_order 260 = .ok (.getfield 86, 3) := by decide +kernel
theorem dX5_order_263 : decode cX5_order 263 = .ok (.iload 9, 2) := by decide +kernel
theorem dX5_order_265 : decode cX5_order 265 = .ok (.iaload, 1) := by decide +kernel
theorem dX5_order_266 : decode cX5_order 266 = .ok (.imul, 1) := by decide +kernel
theorem dX5_order_267 : decode cX5_order 267 = .ok (.iaload, 1) := by decide +kernel
theorem dX5_order_268 : decode cX5_order 268 = .ok (.iastore, 1) := by decide +kernel
theorem dX5_order_269 : decode cX5_order 269 = .ok (.aload_n 0, 1) := by decide +kernel
theorem dX5_order_270 : decode cX5_order 270 = .ok (.getfield 32, 3) := by decide +kernel
theorem dX5_order_273 : decode cX5_order 273 = .ok (.iload 10, 2) := by decide +kernel
theorem dX5_order_275 : decode cX5_order 275 = .ok (.aload_n 0, 1) := by decide +kernel
theorem dX5_order_276 : decode cX5_order 276 = .ok (.getfield 83, 3) := by decide +kernel
theorem dX5_order_279 : decode cX5_order 279 = .ok (.iconst 4, 1) := by decide +kernel
theorem dX5_order_280 : decode cX5_order 280 = .ok (.aload_n 0, 1) := by decide +kernel
theorem dX5_order_281 : decode cX5_order 281 = .ok (.getfield 86, 3) := by decide +kernel
theorem dX5_order_284 : decode cX5_order 284 = .ok (.iload 9, 2) := by decide +kernel
theorem dX5_order_286 : decode cX5_order 286 = .ok (.iaload, 1) := by decide +kernel
theorem dX5_order_287 : decode cX5_order 287 = .ok (.imul, 1) := by decide +kernel
theorem dX5_order_288 : decode cX5_order 288 = .ok (.iconst 1, 1) := by decide +kernel
theorem dX5_order_289 : decode cX5_order 289 = .ok (.iadd, 1) := by decide +kernel
theorem dX5_order_290 : decode cX5_order 290 = .ok (.iaload, 1) := by decide +kernel
theorem dX5_order_291 : decode cX5_order 291 = .ok (.iastore, 1) := by decide +kernel
theorem dX5_order_292 : decode cX5_order 292 = .ok (.aload_n 0, 1) := by decide +kernel
theorem dX5_order_293 : decode cX5_order 293 = .ok (.getfield 35, 3) := by decide +kernel
theorem dX5_order_296 : decode cX5_order 296 = .ok (.iload 10, 2) := by decide +kernel
theorem dX5_order_298 : decode cX5_order 298 = .ok (.aload_n 0, 1) := by decide +kernel
theorem dX5_order_299 : decode cX5_order 299 = .ok (.getfield 83, 3) := by decide +kernel
theorem dX5_order_302 : decode cX5_order 302 = .ok (.iconst 4, 1) := by decide +kernel
theorem dX5_order_303 : decode cX5_order 303 = .ok (.aload_n 0, 1) := by decide +kernel
theorem dX5_order_304 : decode cX5_order 304 = .ok (.getfield 86, 3) := by decide +kernel
theorem dX5_order_307 : decode cX5_order 307 = .ok (.iload 9, 2) := by decide +kernel
theorem dX5_order_309 : decode cX5_order 309 = .ok (.iaload, 1) := by decide +kernel
theorem dX5_order_310 : decode cX5_order 310 = .ok (.imul, 1) := by decide +kernel
theorem dX5_order_311 : decode cX5_order 311 = .ok (.iconst 2, 1) := by decide +kernel
theorem dX5_order_312 : decode cX5_order 312 = .ok (.iadd, 1) := by decide +kernel
theorem dX5_order_313 : decode cX5_order 313 = .ok (.iaload, 1) := by decide +kernel
theorem dX5_order_314 : decode cX5_order 314 = .ok (.iastore, 1) := by decide +kernel
theorem dX5_order_315 : decode cX5_order 315 = .ok (.aload_n 0, 1) := by decide +kernel
theorem dX5_order_316 : decode cX5_order 316 = .ok (.getfield 41, 3) := by decide +kernel
theorem dX5_order_319 : decode cX5_order 319 = .ok (.iload 10, 2) := by decide +kernel
theorem dX5_order_321 : decode cX5_order 321 = .ok (.aload_n 0, 1) := by decide +kernel
theorem dX5_order_322 : decode cX5_order 322 = .ok (.getfield 83, 3) := by decide +kernel
theorem dX5_order_325 : decode cX5_order 325 = .ok (.iconst 4, 1) := by decide +kernel
theorem dX5_order_326 : decode cX5_order 326 = .ok (.aload_n 0, 1) := by decide +kernel
theorem dX5_order_327 : decode cX5_order 327 = .ok (.getfield 86, 3) := by decide +kernel
theorem dX5_order_330 : decode cX5_order 330 = .ok (.iload 9, 2) := by decide +kernel
theorem dX5_order_332 : decode cX5_order 332 = .ok (.iaload, 1) := by decide +kernel
theorem dX5_order_333 : decode cX5_order 333 = .ok (.imul, 1) := by decide +kernel
theorem dX5_order_334 : decode cX5_order 334 = .ok (.iconst 3, 1) := by decide +kernel
theorem dX5_order_335 : decode cX5_order 335 = .ok (.iadd, 1) := by decide +kernel
theorem dX5_order_336 : decode cX5_order 336 = .ok (.iaload, 1) := by decide +kernel
theorem dX5_order_337 : decode cX5_order 337 = .ok (.iastore, 1) := by decide +kernel
theorem dX5_order_338 : decode cX5_order 338 = .ok (.bipush 10, 2) := by decide +kernel
theorem dX5_order_340 : decode cX5_order 340 = .ok (.iload 8, 2) := by decide +kernel
theorem dX5_order_342 : decode cX5_order 342 = .ok (.imul, 1) := by decide +kernel
theorem dX5_order_343 : decode cX5_order 343 = .ok (.aload_n 0, 1) := by decide +kernel
theorem dX5_order_344 : decode cX5_order 344 = .ok (.getfield 80, 3) := by decide +kernel
theorem dX5_order_347 : decode cX5_order 347 = .ok (.aload_n 0, 1) := by decide +kernel
theorem dX5_order_348 : decode cX5_order 348 = .ok (.getfield 86, 3) := by decide +kernel
theorem dX5_order_351 : decode cX5_order 351 = .ok (.iload 9, 2) := by decide +kernel
theorem dX5_order_353 : decode cX5_order 353 = .ok (.iaload, 1) := by decide +kernel
theorem dX5_order_354 : decode cX5_order 354 = .ok (.iaload, 1) := by decide +kernel
theorem dX5_order_355 : decode cX5_order 355 = .ok (.iadd, 1) := by decide +kernel
theorem dX5_order_356 : decode cX5_order 356 = .ok (.istore 8, 2) := by decide +kernel
theorem dX5_order_358 : decode cX5_order 358 = .ok (.iinc 9 1, 3) := by decide +kernel
theorem dX5_order_361 : decode cX5_order 361 = .ok (.goto (-128), 3) := by decide +kernel
theorem dX5_order_364 : decode cX5_order 364 = .ok (.aload_n 0, 1) := by decide +kernel
theorem dX5_order_365 : decode cX5_order 365 = .ok (.invokevirtual 255, 3) := by decide +kernel
theorem dX5_order_368 : decode cX5_order 368 = .ok (.istore 9, 2) := by decide +kernel
theorem dX5_order_370 : decode cX5_order 370 = .ok (.iload 9, 2) := by decide +kernel
theorem dX5_order_372 : decode cX5_order 372 = .ok (.iload 5, 2) := by decide +kernel
theorem dX5_order_374 : decode cX5_order 374 = .ok (.if_icmp .le 8, 3) := by decide +kernel
theorem dX5_order_377 : decode cX5_order 377 = .ok (.iload 8, 2) := by decide +kernel
theorem dX5_order_379 : decode cX5_order 379 = .ok (.goto 5, 3) := by decide +kernel
theorem dX5_order_382 : decode cX5_order 382 = .ok (.iload 4, 2) := by decide +kernel
theorem dX5_order_384 : decode cX5_order 384 = .ok (.istore 4, 2) := by decide +kernel
theorem dX5_order_386 : decode cX5_order 386 = .ok (.iload 9, 2) := by decide +kernel
theorem dX5_order_388 : decode cX5_order 388 = .ok (.iload 5, 2) := by decide +kernel
theorem dX5_order_390 : decode cX5_order 390 = .ok (.if_icmp .le 8, 3) := by decide +kernel
theorem dX5_order_393 : decode cX5_order 393 = .ok (.iload 9, 2) := by decide +kernel
theorem dX5_order_395 : decode cX5_order 395 = .ok (.goto 5, 3) := by decide +kernel
theorem dX5_order_398 : decode cX5_order 398 = .ok (.iload 5, 2) := by decide +kernel
theorem dX5_order_400 : decode cX5_order 400 = .ok (.istore 5, 2) := by decide +kernel
theorem dX5_order_402 : decode cX5_order 402 = .ok (.iinc 7 1, 3) := by decide +kernel
theorem dX5_order_405 : decode cX5_order 405 = .ok (.goto (-192), 3) := by decide +kernel
theorem dX5_order_408 : decode cX5_order 408 = .ok (.iload_n 1, 1) := by decide +kernel
theorem dX5_order_409 : decode cX5_order 409 = .ok (.iconst 1, 1) := by decide +kernel
theorem dX5_order_410 : decode cX5_order 410 = .ok (.if_icmp .ne 8, 3) := by decide +kernel
theorem dX5_order_413 : decode cX5_order 413 = .ok (.iload 5, 2) := by decide +kernel
theorem dX5_order_415 : decode cX5_order 415 = .ok (.goto 14, 3) := by decide +kernel
theorem dX5_order_418 : decode cX5_order 418 = .ok (.iload_n 2, 1) := by decide +kernel
theorem dX5_order_419 : decode cX5_order 419 = .ok (.ifCond .ne 8, 3) := by decide +kernel
theorem dX5_order_422 : decode cX5_order 422 = .ok (.bipush (-9), 2) := by decide +kernel
theorem dX5_order_424 : decode cX5_order 424 = .ok (.goto 5, 3) := by decide +kernel
theorem dX5_order_427 : decode cX5_order 427 = .ok (.iload 4, 2) := by decide +kernel
theorem dX5_order_429 : decode cX5_order 429 = .ok (.ireturn, 1) := by decide +kernel
theorem dX5_timetable_0 : decode cX5_timetable 0 = .ok (.aload_n 0, 1) := by decide +kernel
theorem dX5_timetable_1 : decode cX5_timetable 1 = .ok (.iconst 0, 1) := by decide +kernel
theorem dX5_timetable_2 : decode cX5_timetable 2 = .ok (.putfield 92, 3) := by decide +kernel
theorem dX5_timetable_5 : decode cX5_timetable 5 = .ok (.aload_n 0, 1) := by decide +kernel
theorem dX5_timetable_6 : decode cX5_timetable 6 = .ok (.iload_n 1, 1) := by decide +kernel
theorem dX5_timetable_7 : decode cX5_timetable 7 = .ok (.invokevirtual 192, 3) := by decide +kernel
theorem dX5_timetable_10 : decode cX5_timetable 10 = .ok (.ifCond .eq 20, 3) := by decide +kernel
theorem dX5_timetable_13 : decode cX5_timetable 13 = .ok (.aload_n 0, 1) := by decide +kernel
theorem dX5_timetable_14 : decode cX5_timetable 14 = .ok (.iload_n 2, 1) := by decide +kernel
theorem dX5_timetable_15 : decode cX5_timetable 15 = .ok (.invokevirtual 192, 3) := by decide +kernel
theorem dX5_timetable_18 : decode cX5_timetable 18 = .ok (.ifCond .eq 12, 3) := by decide +kernel
theorem dX5_timetable_21 : decode cX5_timetable 21 = .ok (.iload_n 1, 1) := by decide +kernel
theorem dX5_timetable_22 : decode cX5_timetable 22 = .ok (.iload_n 2, 1) := by decide +kernel
theorem dX5_timetable_23 : decode cX5_timetable 23 = .ok (.if_icmp .eq 7, 3) := by decide +kernel
theorem dX5_timetable_26 : decode cX5_timetable 26 = .ok (.iconst 0, 1) := by decide +kernel
theorem dX5_timetable_27 : decode cX5_timetable 27 = .ok (.goto 4, 3) := by decide +kernel
theorem dX5_timetable_30 : decode cX5_timetable 30 = .ok (.iconst (-1), 1) := by decide +kernel
theorem dX5_timetable_31 : decode cX5_timetable 31 = .ok (.istore_n 3, 1) := by decide +kernel
theorem dX5_timetable_32 : decode cX5_timetable 32 = .ok (.iload_n 3, 1) := by decide +kernel
theorem dX5_timetable_33 : decode cX5_timetable 33 = .ok (.ifCond .ne 26, 3) := by decide +kernel
theorem dX5_timetable_36 : decode cX5_timetable 36 = .ok (.aload_n 0, 1) := by decide +kernel
theorem dX5_timetable_37 : decode cX5_timetable 37 = .ok (.iload_n 1, 1) := by decide +kernel
theorem dX5_timetable_38 : decode cX5_timetable 38 = .ok (.iconst 0, 1) := by decide +kernel
theorem dX5_timetable_39 : decode cX5_timetable 39 = .ok (.invokevirtual 249, 3) := by decide +kernel
theorem dX5_timetable_42 : decode cX5_timetable 42 = .ok (.ifCond .lt 12, 3) := by decide +kernel
theorem dX5_timetable_45 : decode cX5_timetable 45 = .ok (.aload_n 0, 1) := by decide +kernel
theorem dX5_timetable_46 : decode cX5_timetable 46 = .ok (.iload_n 2, 1) := by decide +kernel
theorem dX5_timetable_47 : decode cX5_timetable 47 = .ok (.iconst 0, 1) := by decide +kernel
theorem dX5_timetable_48 : decode cX5_timetable 48 = .ok (.invokevirtual 249, 3) := by decide +kernel
theorem dX5_timetable_51 : decode cX5_timetable 51 = .ok (.ifCond .ge 8, 3) := by decide +kernel
theorem dX5_timetable_54 : decode cX5_timetable 54 = .ok (.bipush (-3), 2) := by decide +kernel
theorem dX5_timetable_56 : decode cX5_timetable 56 = .ok (.goto 4, 3) := by decide +kernel
theorem dX5_timetable_59 : decode cX5_timetable 59 = .ok (.iload_n 3, 1) := by decide +kernel
theorem dX5_timetable_60 : decode cX5_timetable 60 = .ok (.istore_n 3, 1) := by decide +kernel
theorem dX5_timetable_61 : decode cX5_timetable 61 = .ok (.iload_n 3, 1) := by decide +kernel
theorem dX5_timetable_62 : decode cX5_timetable 62 = .ok (.ifCond .ge 9, 3) := by decide +kernel
theorem dX5_timetable_65 : decode cX5_timetable 65 = .ok (.aload_n 0, 1) := by decide +kernel
theorem dX5_timetable_66 : decode cX5_timetable 66 = .ok (.iload_n 3, 1) := by decide +kernel
theorem dX5_timetable_67 : decode cX5_timetable 67 = .ok (.invokevirtual 139, 3) := by decide +kernel
theorem dX5_timetable_70 : decode cX5_timetable 70 = .ok (.ireturn, 1) := by decide +kernel
theorem dX5_timetable_71 : decode cX5_timetable 71 = .ok (.bipush (-9), 2) := by decide +kernel
theorem dX5_timetable_73 : decode cX5_timetable 73 = .ok (.istore 4, 2) := by decide +kernel
theorem dX5_timetable_75 : decode cX5_timetable 75 = .ok (.bipush 99, 2) := by decide +kernel
theorem dX5_timetable_77 : decode cX5_timetable 77 = .ok (.istore 5, 2) := by decide +kernel
theorem dX5_timetable_79 : decode cX5_timetable 79 = .ok (.aload_n 0, 1) := by decide +kernel
theorem dX5_timetable_80 : decode cX5_timetable 80 = .ok (.invokevirtual 203, 3) := by decide +kernel
theorem dX5_timetable_83 : decode cX5_timetable 83 = .ok (.iconst 0, 1) := by decide +kernel
theorem dX5_timetable_84 : decode cX5_timetable 84 = .ok (.istore 6, 2) := by decide +kernel
theorem dX5_timetable_86 : decode cX5_timetable 86 = .ok (.iload 6, 2) := by decide +kernel
theorem dX5_timetable_88 : decode cX5_timetable 88 = .ok (.bipush 24, 2) := by decide +kernel
theorem dX5_timetable_90 : decode cX5_timetable 90 = .ok (.if_icmp .gt 165, 3) := by decide +kernel
theorem dX5_timetable_93 : decode cX5_timetable 93 = .ok (.iconst 0, 1) := by decide +kernel
theorem dX5_timetable_94 : decode cX5_timetable 94 = .ok (.istore 7, 2) := by decide +kernel
theorem dX5_timetable_96 : decode cX5_timetable 96 = .ok (.iload 7, 2) := by decide +kernel
theorem dX5_timetable_98 : decode cX5_timetable 98 = .ok (.bipush 24, 2) := by decide +kernel
theorem dX5_timetable_100 : decode cX5_timetable 100 = .ok (.if_icmp .gt 149, 3) := by decide +kernel
theorem dX5_timetable_103 : decode cX5_timetable 103 = .ok (.iload 6, 2) := by decide +kernel
theorem dX5_timetable_105 : decode cX5_timetable 105 = .ok (.iload 7, 2) := by decide +kernel
theorem dX5_timetable_107 : decode cX5_timetable 107 = .ok (.if_icmp .eq 136, 3) := by decide +kernel
theorem dX5_timetable_110 : decode cX5_timetable 110 = .ok (.aload_n 0, 1) := by decide +kernel
theorem dX5_timetable_111 : decode cX5_timetable 111 = .ok (.getfield 41, 3) := by decide +kernel
theorem dX5_timetable_114 : decode cX5_timetable 114 = .ok (.iload_n 1, 1) := by decide +kernel
theorem dX5_timetable_115 : decode cX5_timetable 115 = .ok (.iload 6, 2) := by decide +kernel
theorem dX5_timetable_117 : decode cX5_timetable 117 = .ok (.iastore, 1) := by decide +kernel
theorem dX5_timetable_118 : decode cX5_timetable 118 = .ok (.aload_n 0, 1) := by decide +kernel
theorem dX5_timetable_119 : decode cX5_timetable 119 = .ok (.getfield 41, 3) := by decide +kernel
theorem dX5_timetable_122 : decode cX5_timetable 122 = .ok (.iload_n 2, 1) := by decide +kernel
theorem dX5_timetable_123 : decode cX5_timetable 123 = .ok (.iload 7, 2) := by decide +kernel
theorem dX5_timetable_125 : decode cX5_timetable 125 = .ok (.iastore, 1) := by decide +kernel
theorem dX5_timetable_126 : decode cX5_timetable 126 = .ok (.aload_n 0, 1) := by decide +kernel
theorem dX5_timetable_127 : decode cX5_timetable 127 = .ok (.bipush 72, 2) := by decide +kernel
theorem dX5_timetable_129 : decode cX5_timetable 129 = .ok (.invokevirtual 197, 3) := by decide +kernel
theorem dX5_timetable_132 : decode cX5_timetable 132 = .ok (.aload_n 0, 1) := by decide +kernel
theorem dX5_timetable_133 : decode cX5_timetable 133 = .ok (.getfield 44, 3) := by decide +kernel
theorem dX5_timetable_136 : decode cX5_timetable 136 = .ok (.iload_n 1, 1) := by decide +kernel
theorem dX5_timetable_137 : decode cX5_timetable 137 = .ok (.iaload, 1) := by decide +kernel
theorem dX5_timetable_138 : decode cX5_timetable 138 = .ok (.iconst 1, 1) := by decide +kernel
theorem dX5_timetable_139 : decode cX5_timetable 139 = .ok (.if_icmp .ne 17, 3) := by decide +kernel
theorem dX5_timetable_142 : decode cX5_timetable 142 = .ok (.aload_n 0, 1) := by decide +kernel
theorem dX5_timetable_143 : decode cX5_timetable 143 = .ok (.getfield 44, 3) := by decide +kernel
theorem dX5_timetable_146 : decode cX5_timetable 146 = .ok (.iload_n 2, 1) := by decide +kernel
theorem dX5_timetable_147 : decode cX5_timetable 147 = .ok (.iaload, 1) := by decide +kernel
theorem dX5_timetable_148 : decode cX5_timetable 148 = .ok (.iconst 1, 1) := by decide +kernel
theorem dX5_timetable_149 : decode cX5_timetable 149 = .ok (.if_icmp .ne 7, 3) := by decide +kernel
theorem dX5_timetable_152 : decode cX5_timetable 152 = .ok (.iconst 1, 1) := by decide +kernel
theorem dX5_timetable_153 : decode cX5_timetable 153 = .ok (.goto 4, 3) := by decide +kernel
theorem dX5_timetable_156 : decode cX5_timetable 156 = .ok (.iconst 0, 1) := by decide +kernel
theorem dX5_timetable_157 : decode cX5_timetable 157 = .ok (.istore 8, 2) := by decide +kernel
theorem dX5_timetable_159 : decode cX5_timetable 159 = .ok (.aload_n 0, 1) := by decide +kernel
theorem dX5_timetable_160 : decode cX5_timetable 160 = .ok (.getfield 53, 3) := by decide +kernel
theorem dX5_timetable_163 : decode cX5_timetable 163 = .ok (.iload_n 1, 1) := by decide +kernel
theorem dX5_timetable_164 : decode cX5_timetable 164 = .ok (.iaload, 1) := by decide +kernel
theorem dX5_timetable_165 : decode cX5_timetable 165 = .ok (.aload_n 0, 1) := by decide +kernel
theorem dX5_timetable_166 : decode cX5_timetable 166 = .ok (.getfield 53, 3) := by decide +kernel
theorem dX5_timetable_169 : decode cX5_timetable 169 = .ok (.iload_n 2, 1) := by decide +kernel
theorem dX5_timetable_170 : decode cX5_timetable 170 = .ok (.iaload, 1) := by decide +kernel
theorem dX5_timetable_171 : decode cX5_timetable 171 = .ok (.if_icmp .le 12, 3) := by decide +kernel
theorem dX5_timetable_174 : decode cX5_timetable 174 = .ok (.aload_n 0, 1) := by decide +kernel
theorem dX5_timetable_175 : decode cX5_timetable 175 = .ok (.getfield 53, 3) := by decide +kernel
theorem dX5_timetable_178 : decode cX5_timetable 178 = .ok (.iload_n 1, 1) := by decide +kernel
theorem dX5_timetable_179 : decode cX5_timetable 179 = .ok (.iaload, 1) := by decide +kernel
theorem dX5_timetable_180 : decode cX5_timetable 180 = .ok (.goto 9, 3) := by decide +kernel
theorem dX5_timetable_183 : decode cX5_timetable 183 = .ok (.aload_n 0, 1) := by decide +kernel
theorem dX5_timetable_184 : decode cX5_timetable 184 = .ok (.getfield 53, 3) := by decide +kernel
theorem dX5_timetable_187 : decode cX5_timetable 187 = .ok (.iload_n 2, 1) := by decide +kernel
theorem dX5_timetable_188 : decode cX5_timetable 188 = .ok (.iaload, 1) := by decide +kernel
theorem dX5_timetable_189 : decode cX5_timetable 189 = .ok (.istore 9, 2) := by decide +kernel
theorem dX5_timetable_191 : decode cX5_timetable 191 = .ok (.aload_n 0, 1) := by decide +kernel
theorem dX5_timetable_192 : decode cX5_timetable 192 = .ok (.invokevirtual 209, 3) := by decide +kernel
theorem dX5_timetable_195 : decode cX5_timetable 195 = .ok (.iload 8, 2) := by decide +kernel
theorem dX5_timetable_197 : decode cX5_timetable 197 = .ok (.ifCond .eq 21, 3) := by decide +kernel
theorem dX5_timetable_200 : decode cX5_timetable 200 = .ok (.iload 9, 2) := by decide +kernel
theorem dX5_timetable_202 : decode cX5_timetable 202 = .ok (.iload 5, 2) := by decide +kernel
theorem dX5_timetable_204 : decode cX5_timetable 204 = .ok (.if_icmp .ge 14, 3) := by decide +kernel
theorem dX5_timetable_207 : decode cX5_timetable 207 = .ok (.bipush 100, 2) := by decide +kernel
theorem dX5_timetable_209 : decode cX5_timetable 209 = .ok (.iload 6, 2) := by decide +kernel
theorem dX5_timetable_211 : decode cX5_timetable 211 = .ok (.imul, 1) := by decide +kernel
theorem dX5_timetable_212 : decode cX5_timetable 212 = .ok (.iload 7, 2) := by decide +kernel
theorem dX5_timetable_214 : decode cX5_timetable 214 = .ok (.iadd, 1) := by decide +kernel
theorem dX5_timetable_215 : decode cX5_timetable 215 = .ok (.goto 5, 3) := by decide +kernel
theorem dX5_timetable_218 : decode cX5_timetable 218 = .ok (.iload 4, 2) := by decide +kernel
theorem dX5_timetable_220 : decode cX5_timetable 220 = .ok (.istore 4, 2) := by decide +kernel
theorem dX5_timetable_222 : decode cX5_timetable 222 = .ok (.iload 8, 2) := by decide +kernel
theorem dX5_timetable_224 : decode cX5_timetable 224 = .ok (.ifCond .eq 15, 3) := by decide +kernel
theorem dX5_timetable_227 : decode cX5_timetable 227 = .ok (.iload 9, 2) := by decide +kernel
theorem dX5_timetable_229 : decode cX5_timetable 229 = .ok (.iload 5, 2) := by decide +kernel
theorem dX5_timetable_231 : decode cX5_timetable 231 = .ok (.if_icmp .ge 8, 3) := by decide +kernel
theorem dX5_timetable_234 : decode cX5_timetable 234 = .ok (.iload 9, 2) := by decide +kernel
theorem dX5_timetable_236 : decode cX5_timetable 236 = .ok (.goto 5, 3) := by decide +kernel
theorem dX5_timetable_239 : decode cX5_timetable 239 = .ok (.iload 5, 2) := by decide +kernel
theorem dX5_timetable_241 : decode cX5_timetable 241 = .ok (.istore 5, 2) := by decide +kernel
theorem dX5_timetable_243 : decode cX5_timetable 243 = .ok (.iinc 7 6, 3) := by decide +kernel
theorem dX5_timetable_246 : decode cX5_timetable 246 = .ok (.goto (-150), 3) := by decide +kernel
theorem dX5_timetable_249 : decode cX5_timetable 249 = .ok (.iinc 6 6, 3) := by decide +kernel
theorem dX5_timetable_252 : decode cX5_timetable 252 = .ok (.goto (-166), 3) := by decide +kernel
theorem dX5_timetable_255 : decode cX5_timetable 255 = .ok (.iload 4, 2) := by decide +kernel
theorem dX5_timetable_257 : decode cX5_timetable 257 = .ok (.ireturn, 1) := by decide +kernel
theorem dX5_said_0 : decode cX5_said 0 = .ok (.aload_n 0, 1) := by decide +kernel
theorem dX5_said_1 : decode cX5_said 1 = .ok (.iconst 0, 1) := by decide +kernel
theorem dX5_said_2 : decode cX5_said 2 = .ok (.putfield 92, 3) := by decide +kernel
theorem dX5_said_5 : decode cX5_said 5 = .ok (.iconst 0, 1) := by decide +kernel
theorem dX5_said_6 : decode cX5_said 6 = .ok (.istore_n 1, 1) := by decide +kernel
theorem dX5_said_7 : decode cX5_said 7 = .ok (.iconst 0, 1) := by decide +kernel
theorem dX5_said_8 : decode cX5_said 8 = .ok (.istore_n 2, 1) := by decide +kernel
theorem dX5_said_9 : decode cX5_said 9 = .ok (.iload_n 2, 1) := by decide +kernel
theorem dX5_said_10 : decode cX5_said 10 = .ok (.bipush 10, 2) := by decide +kernel
theorem dX5_said_12 : decode cX5_said 12 = .ok (.if_icmp .ge 76, 3) := by decide +kernel
theorem dX5_said_15 : decode cX5_said 15 = .ok (.iconst 1, 1) := by decide +kernel
theorem dX5_said_16 : decode cX5_said 16 = .ok (.istore_n 3, 1) := by decide +kernel
theorem dX5_said_17 : decode cX5_said 17 = .ok (.iconst 0, 1) := by decide +kernel
theorem dX5_said_18 : decode cX5_said 18 = .ok (.istore 4, 2) := by decide +kernel
