theorem dX8_otherIn_32 : decode cX8_otherIn 32 = .ok (.iload 4, 2) := by decide +kernel
theorem dX8_otherIn_34 : decode cX8_otherIn 34 = .ok (.goto 4, 3) := by decide +kernel
theorem dX8_otherIn_37 : decode cX8_otherIn 37 = .ok (.iload_n 3, 1) := by decide +kernel
theorem dX8_otherIn_38 : decode cX8_otherIn 38 = .ok (.istore_n 3, 1) := by decide +kernel
theorem dX8_otherIn_39 : decode cX8_otherIn 39 = .ok (.iinc 4 1, 3) := by decide +kernel
theorem dX8_otherIn_42 : decode cX8_otherIn 42 = .ok (.goto (-36), 3) := by decide +kernel
theorem dX8_otherIn_45 : decode cX8_otherIn 45 = .ok (.iload_n 3, 1) := by decide +kernel
theorem dX8_otherIn_46 : decode cX8_otherIn 46 = .ok (.ireturn, 1) := by decide +kernel
theorem dX8_moves_0 : decode cX8_moves 0 = .ok (.aload_n 0, 1) := by decide +kernel
theorem dX8_moves_1 : decode cX8_moves 1 = .ok (.getfield 38, 3) := by decide +kernel
theorem dX8_moves_4 : decode cX8_moves 4 = .ok (.iload_n 1, 1) := by decide +kernel
theorem dX8_moves_5 : decode cX8_moves 5 = .ok (.iaload, 1) := by decide +kernel
theorem dX8_moves_6 : decode cX8_moves 6 = .ok (.aload_n 0, 1) := by decide +kernel
theorem dX8_moves_7 : decode cX8_moves 7 = .ok (.iload_n 1, 1) := by decide +kernel
theorem dX8_moves_8 : decode cX8_moves 8 = .ok (.invokevirtual 205, 3) := by decide +kernel
theorem dX8_moves_11 : decode cX8_moves 11 = .ok (.ifCond .eq 12, 3) := by decide +kernel
theorem dX8_moves_14 : decode cX8_moves 14 = .ok (.aload_n 0, 1) := by decide +kernel
theorem dX8_moves_15 : decode cX8_moves 15 = .ok (.getfield 13, 3) := by decide +kernel
theorem dX8_moves_18 : decode cX8_moves 18 = .ok (.iconst 1, 1) := by decide +kernel
theorem dX8_moves_19 : decode cX8_moves 19 = .ok (.isub, 1) := by decide +kernel
theorem dX8_moves_20 : decode cX8_moves 20 = .ok (.goto 4, 3) := by decide +kernel
theorem dX8_moves_23 : decode cX8_moves 23 = .ok (.iconst 0, 1) := by decide +kernel
theorem dX8_moves_24 : decode cX8_moves 24 = .ok (.if_icmp .ne 19, 3) := by decide +kernel
theorem dX8_moves_27 : decode cX8_moves 27 = .ok (.aload_n 0, 1) := by decide +kernel
theorem dX8_moves_28 : decode cX8_moves 28 = .ok (.getfield 38, 3) := by decide +kernel
theorem dX8_moves_31 : decode cX8_moves 31 = .ok (.iload_n 1, 1) := by decide +kernel
theorem dX8_moves_32 : decode cX8_moves 32 = .ok (.bipush (-4), 2) := by decide +kernel
theorem dX8_moves_34 : decode cX8_moves 34 = .ok (.iastore, 1) := by decide +kernel
theorem dX8_moves_35 : decode cX8_moves 35 = .ok (.aload_n 0, 1) := by decide +kernel
theorem dX8_moves_36 : decode cX8_moves 36 = .ok (.getfield 48, 3) := by decide +kernel
theorem dX8_moves_39 : decode cX8_moves 39 = .ok (.iload_n 1, 1) := by decide +kernel
theorem dX8_moves_40 : decode cX8_moves 40 = .ok (.iload_n 2, 1) := by decide +kernel
theorem dX8_moves_41 : decode cX8_moves 41 = .ok (.iastore, 1) := by decide +kernel
theorem dX8_moves_42 : decode cX8_moves 42 = .ok (.return_, 1) := by decide +kernel
theorem dX8_moves_43 : decode cX8_moves 43 = .ok (.aload_n 0, 1) := by decide +kernel
theorem dX8_moves_44 : decode cX8_moves 44 = .ok (.iload_n 1, 1) := by decide +kernel
theorem dX8_moves_45 : decode cX8_moves 45 = .ok (.invokevirtual 208, 3) := by decide +kernel
theorem dX8_moves_48 : decode cX8_moves 48 = .ok (.istore_n 3, 1) := by decide +kernel
theorem dX8_moves_49 : decode cX8_moves 49 = .ok (.aload_n 0, 1) := by decide +kernel
theorem dX8_moves_50 : decode cX8_moves 50 = .ok (.getfield 44, 3) := by decide +kernel
theorem dX8_moves_53 : decode cX8_moves 53 = .ok (.iload_n 1, 1) := by decide +kernel
theorem dX8_moves_54 : decode cX8_moves 54 = .ok (.baload, 1) := by decide +kernel
theorem dX8_moves_55 : decode cX8_moves 55 = .ok (.ifCond .ne 39, 3) := by decide +kernel
theorem dX8_moves_58 : decode cX8_moves 58 = .ok (.aload_n 0, 1) := by decide +kernel
theorem dX8_moves_59 : decode cX8_moves 59 = .ok (.getfield 44, 3) := by decide +kernel
theorem dX8_moves_62 : decode cX8_moves 62 = .ok (.iload_n 1, 1) := by decide +kernel
theorem dX8_moves_63 : decode cX8_moves 63 = .ok (.iconst 1, 1) := by decide +kernel
theorem dX8_moves_64 : decode cX8_moves 64 = .ok (.bastore, 1) := by decide +kernel
theorem dX8_moves_65 : decode cX8_moves 65 = .ok (.aload_n 0, 1) := by decide +kernel
theorem dX8_moves_66 : decode cX8_moves 66 = .ok (.getfield 41, 3) := by decide +kernel
theorem dX8_moves_69 : decode cX8_moves 69 = .ok (.iload_n 1, 1) := by decide +kernel
theorem dX8_moves_70 : decode cX8_moves 70 = .ok (.aload_n 0, 1) := by decide +kernel
theorem dX8_moves_71 : decode cX8_moves 71 = .ok (.getfield 20, 3) := by decide +kernel
theorem dX8_moves_74 : decode cX8_moves 74 = .ok (.iconst 5, 1) := by decide +kernel
theorem dX8_moves_75 : decode cX8_moves 75 = .ok (.aload_n 0, 1) := by decide +kernel
theorem dX8_moves_76 : decode cX8_moves 76 = .ok (.getfield 7, 3) := by decide +kernel
theorem dX8_moves_79 : decode cX8_moves 79 = .ok (.bipush 9, 2) := by decide +kernel
theorem dX8_moves_81 : decode cX8_moves 81 = .ok (.iload_n 1, 1) := by decide +kernel
theorem dX8_moves_82 : decode cX8_moves 82 = .ok (.iadd, 1) := by decide +kernel
theorem dX8_moves_83 : decode cX8_moves 83 = .ok (.iaload, 1) := by decide +kernel
theorem dX8_moves_84 : decode cX8_moves 84 = .ok (.imul, 1) := by decide +kernel
theorem dX8_moves_85 : decode cX8_moves 85 = .ok (.aload_n 0, 1) := by decide +kernel
theorem dX8_moves_86 : decode cX8_moves 86 = .ok (.getfield 7, 3) := by decide +kernel
theorem dX8_moves_89 : decode cX8_moves 89 = .ok (.iload_n 3, 1) := by decide +kernel
theorem dX8_moves_90 : decode cX8_moves 90 = .ok (.iaload, 1) := by decide +kernel
theorem dX8_moves_91 : decode cX8_moves 91 = .ok (.iadd, 1) := by decide +kernel
theorem dX8_moves_92 : decode cX8_moves 92 = .ok (.iaload, 1) := by decide +kernel
theorem dX8_moves_93 : decode cX8_moves 93 = .ok (.iastore, 1) := by decide +kernel
theorem dX8_moves_94 : decode cX8_moves 94 = .ok (.aload_n 0, 1) := by decide +kernel
theorem dX8_moves_95 : decode cX8_moves 95 = .ok (.getfield 41, 3) := by decide +kernel
theorem dX8_moves_98 : decode cX8_moves 98 = .ok (.iload_n 1, 1) := by decide +kernel
theorem dX8_moves_99 : decode cX8_moves 99 = .ok (.iaload, 1) := by decide +kernel
theorem dX8_moves_100 : decode cX8_moves 100 = .ok (.ifCond .le 24, 3) := by decide +kernel
theorem dX8_moves_103 : decode cX8_moves 103 = .ok (.aload_n 0, 1) := by decide +kernel
theorem dX8_moves_104 : decode cX8_moves 104 = .ok (.getfield 41, 3) := by decide +kernel
theorem dX8_moves_107 : decode cX8_moves 107 = .ok (.iload_n 1, 1) := by decide +kernel
theorem dX8_moves_108 : decode cX8_moves 108 = .ok (.dup2, 1) := by decide +kernel
theorem dX8_moves_109 : decode cX8_moves 109 = .ok (.iaload, 1) := by decide +kernel
theorem dX8_moves_110 : decode cX8_moves 110 = .ok (.iconst 1, 1) := by decide +kernel
theorem dX8_moves_111 : decode cX8_moves 111 = .ok (.isub, 1) := by decide +kernel
theorem dX8_moves_112 : decode cX8_moves 112 = .ok (.iastore, 1) := by decide +kernel
theorem dX8_moves_113 : decode cX8_moves 113 = .ok (.aload_n 0, 1) := by decide +kernel
theorem dX8_moves_114 : decode cX8_moves 114 = .ok (.dup, 1) := by decide +kernel
theorem dX8_moves_115 : decode cX8_moves 115 = .ok (.getfield 211, 3) := by decide +kernel
theorem dX8_moves_118 : decode cX8_moves 118 = .ok (.iconst 1, 1) := by decide +kernel
theorem dX8_moves_119 : decode cX8_moves 119 = .ok (.iadd, 1) := by decide +kernel
theorem dX8_moves_120 : decode cX8_moves 120 = .ok (.putfield 211, 3) := by decide +kernel
theorem dX8_moves_123 : decode cX8_moves 123 = .ok (.return_, 1) := by decide +kernel
theorem dX8_moves_124 : decode cX8_moves 124 = .ok (.aload_n 0, 1) := by decide +kernel
theorem dX8_moves_125 : decode cX8_moves 125 = .ok (.iload_n 1, 1) := by decide +kernel
theorem dX8_moves_126 : decode cX8_moves 126 = .ok (.iload_n 3, 1) := by decide +kernel
theorem dX8_moves_127 : decode cX8_moves 127 = .ok (.invokevirtual 214, 3) := by decide +kernel
theorem dX8_moves_130 : decode cX8_moves 130 = .ok (.istore 4, 2) := by decide +kernel
theorem dX8_moves_132 : decode cX8_moves 132 = .ok (.iload 4, 2) := by decide +kernel
theorem dX8_moves_134 : decode cX8_moves 134 = .ok (.bipush (-4), 2) := by decide +kernel
theorem dX8_moves_136 : decode cX8_moves 136 = .ok (.if_icmp .ne 32, 3) := by decide +kernel
theorem dX8_moves_139 : decode cX8_moves 139 = .ok (.aload_n 0, 1) := by decide +kernel
theorem dX8_moves_140 : decode cX8_moves 140 = .ok (.getfield 38, 3) := by decide +kernel
theorem dX8_moves_143 : decode cX8_moves 143 = .ok (.iload_n 1, 1) := by decide +kernel
theorem dX8_moves_144 : decode cX8_moves 144 = .ok (.iload_n 3, 1) := by decide +kernel
theorem dX8_moves_145 : decode cX8_moves 145 = .ok (.iastore, 1) := by decide +kernel
theorem dX8_moves_146 : decode cX8_moves 146 = .ok (.aload_n 0, 1) := by decide +kernel
theorem dX8_moves_147 : decode cX8_moves 147 = .ok (.getfield 44, 3) := by decide +kernel
theorem dX8_moves_150 : decode cX8_moves 150 = .ok (.iload_n 1, 1) := by decide +kernel
theorem dX8_moves_151 : decode cX8_moves 151 = .ok (.iconst 0, 1) := by decide +kernel
theorem dX8_moves_152 : decode cX8_moves 152 = .ok (.bastore, 1) := by decide +kernel
theorem dX8_moves_153 : decode cX8_moves 153 = .ok (.aload_n 0, 1) := by decide +kernel
theorem dX8_moves_154 : decode cX8_moves 154 = .ok (.dup, 1) := by decide +kernel
theorem dX8_moves_155 : decode cX8_moves 155 = .ok (.getfield 217, 3) := by decide +kernel
theorem dX8_moves_158 : decode cX8_moves 158 = .ok (.iconst 1, 1) := by decide +kernel
theorem dX8_moves_159 : decode cX8_moves 159 = .ok (.iload_n 3, 1) := by decide +kernel
theorem dX8_moves_160 : decode cX8_moves 160 = .ok (.ishl, 1) := by decide +kernel
theorem dX8_moves_161 : decode cX8_moves 161 = .ok (.ior, 1) := by decide +kernel
theorem dX8_moves_162 : decode cX8_moves 162 = .ok (.putfield 217, 3) := by decide +kernel
theorem dX8_moves_165 : decode cX8_moves 165 = .ok (.goto 52, 3) := by decide +kernel
theorem dX8_moves_168 : decode cX8_moves 168 = .ok (.aload_n 0, 1) := by decide +kernel
theorem dX8_moves_169 : decode cX8_moves 169 = .ok (.getfield 7, 3) := by decide +kernel
theorem dX8_moves_172 : decode cX8_moves 172 = .ok (.bipush 8, 2) := by decide +kernel
theorem dX8_moves_174 : decode cX8_moves 174 = .ok (.iaload, 1) := by decide +kernel
theorem dX8_moves_175 : decode cX8_moves 175 = .ok (.iload_n 3, 1) := by decide +kernel
theorem dX8_moves_176 : decode cX8_moves 176 = .ok (.ishr, 1) := by decide +kernel
theorem dX8_moves_177 : decode cX8_moves 177 = .ok (.iconst 1, 1) := by decide +kernel
theorem dX8_moves_178 : decode cX8_moves 178 = .ok (.iand, 1) := by decide +kernel
theorem dX8_moves_179 : decode cX8_moves 179 = .ok (.iconst 1, 1) := by decide +kernel
theorem dX8_moves_180 : decode cX8_moves 180 = .ok (.if_icmp .ne 16, 3) := by decide +kernel
theorem dX8_moves_183 : decode cX8_moves 183 = .ok (.aload_n 0, 1) := by decide +kernel
theorem dX8_moves_184 : decode cX8_moves 184 = .ok (.dup, 1) := by decide +kernel
theorem dX8_moves_185 : decode cX8_moves 185 = .ok (.getfield 220, 3) := by decide +kernel
theorem dX8_moves_188 : decode cX8_moves 188 = .ok (.iconst 1, 1) := by decide +kernel
theorem dX8_moves_189 : decode cX8_moves 189 = .ok (.iadd, 1) := by decide +kernel
theorem dX8_moves_190 : decode cX8_moves 190 = .ok (.putfield 220, 3) := by decide +kernel
theorem dX8_moves_193 : decode cX8_moves 193 = .ok (.goto 24, 3) := by decide +kernel
theorem dX8_moves_196 : decode cX8_moves 196 = .ok (.aload_n 0, 1) := by decide +kernel
theorem dX8_moves_197 : decode cX8_moves 197 = .ok (.iload_n 2, 1) := by decide +kernel
theorem dX8_moves_198 : decode cX8_moves 198 = .ok (.putfield 223, 3) := by decide +kernel
theorem dX8_moves_201 : decode cX8_moves 201 = .ok (.aload_n 0, 1) := by decide +kernel
theorem dX8_moves_202 : decode cX8_moves 202 = .ok (.iload_n 3, 1) := by decide +kernel
theorem dX8_moves_203 : decode cX8_moves 203 = .ok (.putfield 226, 3) := by decide +kernel
theorem dX8_moves_206 : decode cX8_moves 206 = .ok (.aload_n 0, 1) := by decide +kernel
theorem dX8_moves_207 : decode cX8_moves 207 = .ok (.bipush 10, 2) := by decide +kernel
theorem dX8_moves_209 : decode cX8_moves 209 = .ok (.iload_n 1, 1) := by decide +kernel
theorem dX8_moves_210 : decode cX8_moves 210 = .ok (.imul, 1) := by decide +kernel
theorem dX8_moves_211 : decode cX8_moves 211 = .ok (.iload 4, 2) := by decide +kernel
theorem dX8_moves_213 : decode cX8_moves 213 = .ok (.iadd, 1) := by decide +kernel
theorem dX8_moves_214 : decode cX8_moves 214 = .ok (.putfield 229, 3) := by decide +kernel
theorem dX8_moves_217 : decode cX8_moves 217 = .ok (.return_, 1) := by decide +kernel
theorem dX8_run_0 : decode cX8_run 0 = .ok (.aload_n 0, 1) := by decide +kernel
theorem dX8_run_1 : decode cX8_run 1 = .ok (.bipush (-4), 2) := by decide +kernel
theorem dX8_run_3 : decode cX8_run 3 = .ok (.putfield 223, 3) := by decide +kernel
theorem dX8_run_6 : decode cX8_run 6 = .ok (.aload_n 0, 1) := by decide +kernel
theorem dX8_run_7 : decode cX8_run 7 = .ok (.bipush (-4), 2) := by decide +kernel
theorem dX8_run_9 : decode cX8_run 9 = .ok (.putfield 226, 3) := by decide +kernel
theorem dX8_run_12 : decode cX8_run 12 = .ok (.aload_n 0, 1) := by decide +kernel
theorem dX8_run_13 : decode cX8_run 13 = .ok (.bipush (-4), 2) := by decide +kernel
theorem dX8_run_15 : decode cX8_run 15 = .ok (.putfield 229, 3) := by decide +kernel
theorem dX8_run_18 : decode cX8_run 18 = .ok (.aload_n 0, 1) := by decide +kernel
theorem dX8_run_19 : decode cX8_run 19 = .ok (.iconst 0, 1) := by decide +kernel
theorem dX8_run_20 : decode cX8_run 20 = .ok (.putfield 211, 3) := by decide +kernel
theorem dX8_run_23 : decode cX8_run 23 = .ok (.aload_n 0, 1) := by decide +kernel
theorem dX8_run_24 : decode cX8_run 24 = .ok (.iconst 0, 1) := by decide +kernel
theorem dX8_run_25 : decode cX8_run 25 = .ok (.putfield 220, 3) := by decide +kernel
theorem dX8_run_28 : decode cX8_run 28 = .ok (.aload_n 0, 1) := by decide +kernel
theorem dX8_run_29 : decode cX8_run 29 = .ok (.iconst 0, 1) := by decide +kernel
theorem dX8_run_30 : decode cX8_run 30 = .ok (.putfield 217, 3) := by decide +kernel
theorem dX8_run_33 : decode cX8_run 33 = .ok (.iconst 0, 1) := by decide +kernel
theorem dX8_run_34 : decode cX8_run 34 = .ok (.istore_n 1, 1) := by decide +kernel
theorem dX8_run_35 : decode cX8_run 35 = .ok (.iload_n 1, 1) := by decide +kernel
theorem dX8_run_36 : decode cX8_run 36 = .ok (.iconst 4, 1) := by decide +kernel
theorem dX8_run_37 : decode cX8_run 37 = .ok (.if_icmp .ge 39, 3) := by decide +kernel
theorem dX8_run_40 : decode cX8_run 40 = .ok (.aload_n 0, 1) := by decide +kernel
theorem dX8_run_41 : decode cX8_run 41 = .ok (.getfield 38, 3) := by decide +kernel
theorem dX8_run_44 : decode cX8_run 44 = .ok (.iload_n 1, 1) := by decide +kernel
theorem dX8_run_45 : decode cX8_run 45 = .ok (.bipush (-4), 2) := by decide +kernel
theorem dX8_run_47 : decode cX8_run 47 = .ok (.iastore, 1) := by decide +kernel
theorem dX8_run_48 : decode cX8_run 48 = .ok (.aload_n 0, 1) := by decide +kernel
theorem dX8_run_49 : decode cX8_run 49 = .ok (.getfield 41, 3) := by decide +kernel
theorem dX8_run_52 : decode cX8_run 52 = .ok (.iload_n 1, 1) := by decide +kernel
theorem dX8_run_53 : decode cX8_run 53 = .ok (.iconst 0, 1) := by decide +kernel
theorem dX8_run_54 : decode cX8_run 54 = .ok (.iastore, 1) := by decide +kernel
theorem dX8_run_55 : decode cX8_run 55 = .ok (.aload_n 0, 1) := by decide +kernel
theorem dX8_run_56 : decode cX8_run 56 = .ok (.getfield 44, 3) := by decide +kernel
theorem dX8_run_59 : decode cX8_run 59 = .ok (.iload_n 1, 1) := by decide +kernel
theorem dX8_run_60 : decode cX8_run 60 = .ok (.iconst 0, 1) := by decide +kernel
theorem dX8_run_61 : decode cX8_run 61 = .ok (.bastore, 1) := by decide +kernel
theorem dX8_run_62 : decode cX8_run 62 = .ok (.aload_n 0, 1) := by decide +kernel
theorem dX8_run_63 : decode cX8_run 63 = .ok (.getfield 48, 3) := by decide +kernel
theorem dX8_run_66 : decode cX8_run 66 = .ok (.iload_n 1, 1) := by decide +kernel
theorem dX8_run_67 : decode cX8_run 67 = .ok (.bipush (-4), 2) := by decide +kernel
theorem dX8_run_69 : decode cX8_run 69 = .ok (.iastore, 1) := by decide +kernel
theorem dX8_run_70 : decode cX8_run 70 = .ok (.iinc 1 1, 3) := by decide +kernel
theorem dX8_run_73 : decode cX8_run 73 = .ok (.goto (-38), 3) := by decide +kernel
theorem dX8_run_76 : decode cX8_run 76 = .ok (.iconst 0, 1) := by decide +kernel
theorem dX8_run_77 : decode cX8_run 77 = .ok (.istore_n 1, 1) := by decide +kernel
theorem dX8_run_78 : decode cX8_run 78 = .ok (.iload_n 1, 1) := by decide +kernel
theorem dX8_run_79 : decode cX8_run 79 = .ok (.bipush 119, 2) := by decide +kernel
theorem dX8_run_81 : decode cX8_run 81 = .ok (.if_icmp .gt 96, 3) := by decide +kernel
theorem dX8_run_84 : decode cX8_run 84 = .ok (.iconst 0, 1) := by decide +kernel
theorem dX8_run_85 : decode cX8_run 85 = .ok (.istore_n 2, 1) := by decide +kernel
theorem dX8_run_86 : decode cX8_run 86 = .ok (.iload_n 2, 1) := by decide +kernel
theorem dX8_run_87 : decode cX8_run 87 = .ok (.aload_n 0, 1) := by decide +kernel
theorem dX8_run_88 : decode cX8_run 88 = .ok (.getfield 173, 3) := by decide +kernel
theorem dX8_run_91 : decode cX8_run 91 = .ok (.if_icmp .ge 48, 3) := by decide +kernel
theorem dX8_run_94 : decode cX8_run 94 = .ok (.aload_n 0, 1) := by decide +kernel
theorem dX8_run_95 : decode cX8_run 95 = .ok (.getfield 223, 3) := by decide +kernel
theorem dX8_run_98 : decode cX8_run 98 = .ok (.bipush (-4), 2) := by decide +kernel
theorem dX8_run_100 : decode cX8_run 100 = .ok (.if_icmp .ne 33, 3) := by decide +kernel
theorem dX8_run_103 : decode cX8_run 103 = .ok (.aload_n 0, 1) := by decide +kernel
theorem dX8_run_104 : decode cX8_run 104 = .ok (.getfield 48, 3) := by decide +kernel
theorem dX8_run_107 : decode cX8_run 107 = .ok (.iload_n 2, 1) := by decide +kernel
theorem dX8_run_108 : decode cX8_run 108 = .ok (.iaload, 1) := by decide +kernel
theorem dX8_run_109 : decode cX8_run 109 = .ok (.bipush (-4), 2) := by decide +kernel
theorem dX8_run_111 : decode cX8_run 111 = .ok (.if_icmp .ne 22, 3) := by decide +kernel
theorem dX8_run_114 : decode cX8_run 114 = .ok (.iload_n 1, 1) := by decide +kernel
theorem dX8_run_115 : decode cX8_run 115 = .ok (.aload_n 0, 1) := by decide +kernel
theorem dX8_run_116 : decode cX8_run 116 = .ok (.getfield 7, 3) := by decide +kernel
theorem dX8_run_119 : decode cX8_run 119 = .ok (.bipush 17, 2) := by decide +kernel
theorem dX8_run_121 : decode cX8_run 121 = .ok (.iload_n 2, 1) := by decide +kernel
theorem dX8_run_122 : decode cX8_run 122 = .ok (.iadd, 1) := by decide +kernel
theorem dX8_run_123 : decode cX8_run 123 = .ok (.iaload, 1) := by decide +kernel
theorem dX8_run_124 : decode cX8_run 124 = .ok (.if_icmp .lt 9, 3) := by decide +kernel
theorem dX8_run_127 : decode cX8_run 127 = .ok (.aload_n 0, 1) := by decide +kernel
theorem dX8_run_128 : decode cX8_run 128 = .ok (.iload_n 2, 1) := by decide +kernel
theorem dX8_run_129 : decode cX8_run 129 = .ok (.iload_n 1, 1) := by decide +kernel
theorem dX8_run_130 : decode cX8_run 130 = .ok (.invokevirtual 232, 3) := by decide +kernel
theorem dX8_run_133 : decode cX8_run 133 = .ok (.iinc 2 1, 3) := by decide +kernel
theorem dX8_run_136 : decode cX8_run 136 = .ok (.goto (-50), 3) := by decide +kernel
theorem dX8_run_139 : decode cX8_run 139 = .ok (.iconst 0, 1) := by decide +kernel
theorem dX8_run_140 : decode cX8_run 140 = .ok (.istore_n 2, 1) := by decide +kernel
theorem dX8_run_141 : decode cX8_run 141 = .ok (.iload_n 2, 1) := by decide +kernel
theorem dX8_run_142 : decode cX8_run 142 = .ok (.aload_n 0, 1) := by decide +kernel
theorem dX8_run_143 : decode cX8_run 143 = .ok (.getfield 173, 3) := by decide +kernel
theorem dX8_run_146 : decode cX8_run 146 = .ok (.if_icmp .ge 25, 3) := by decide +kernel
theorem dX8_run_149 : decode cX8_run 149 = .ok (.aload_n 0, 1) := by decide +kernel
theorem dX8_run_150 : decode cX8_run 150 = .ok (.getfield 51, 3) := by decide +kernel
theorem dX8_run_153 : decode cX8_run 153 = .ok (.iconst 4, 1) := by decide +kernel
theorem dX8_run_154 : decode cX8_run 154 = .ok (.iload_n 1, 1) := by decide +kernel
theorem dX8_run_155 : decode cX8_run 155 = .ok (.imul, 1) := by decide +kernel
theorem dX8_run_156 : decode cX8_run 156 = .ok (.iload_n 2, 1) := by decide +kernel
theorem dX8_run_157 : decode cX8_run 157 = .ok (.iadd, 1) := by decide +kernel
theorem dX8_run_158 : decode cX8_run 158 = .ok (.aload_n 0, 1) := by decide +kernel
theorem dX8_run_159 : decode cX8_run 159 = .ok (.getfield 38, 3) := by decide +kernel
theorem dX8_run_162 : decode cX8_run 162 = .ok (.iload_n 2, 1) := by decide +kernel
theorem dX8_run_163 : decode cX8_run 163 = .ok (.iaload, 1) := by decide +kernel
theorem dX8_run_164 : decode cX8_run 164 = .ok (.iastore, 1) := by decide +kernel
theorem dX8_run_165 : decode cX8_run 165 = .ok (.iinc 2 1, 3) := by decide +kernel
theorem dX8_run_168 : decode cX8_run 168 = .ok (.goto (-27), 3) := by decide +kernel
theorem dX8_run_171 : decode cX8_run 171 = .ok (.iinc 1 1, 3) := by decide +kernel
theorem dX8_run_174 : decode cX8_run 174 = .ok (.goto (-96), 3) := by decide +kernel
theorem dX8_run_177 : decode cX8_run 177 = .ok (.return_, 1) := by decide +kernel
theorem dX8_homeMany_0 : decode cX8_homeMany 0 = .ok (.iconst 0, 1) := by decide +kernel
theorem dX8_homeMany_1 : decode cX8_homeMany 1 = .ok (.istore_n 1, 1) := by decide +kernel
theorem dX8_homeMany_2 : decode cX8_homeMany 2 = .ok (.iconst 0, 1) := by decide +kernel
theorem dX8_homeMany_3 : decode cX8_homeMany 3 = .ok (.istore_n 2, 1) := by decide +kernel
theorem dX8_homeMany_4 : decode cX8_homeMany 4 = .ok (.iload_n 2, 1) := by decide +kernel
theorem dX8_homeMany_5 : decode cX8_homeMany 5 = .ok (.aload_n 0, 1) := by decide +kernel
theorem dX8_homeMany_6 : decode cX8_homeMany 6 = .ok (.getfield 173, 3) := by decide +kernel
theorem dX8_homeMany_9 : decode cX8_homeMany 9 = .ok (.if_icmp .ge 28, 3) := by decide +kernel
theorem dX8_homeMany_12 : decode cX8_homeMany 12 = .ok (.iload_n 1, 1) := by decide +kernel
theorem dX8_homeMany_13 : decode cX8_homeMany 13 = .ok (.aload_n 0, 1) := by decide +kernel
theorem dX8_homeMany_14 : decode cX8_homeMany 14 = .ok (.getfield 48, 3) := by decide +kernel
theorem dX8_homeMany_17 : decode cX8_homeMany 17 = .ok (.iload_n 2, 1) := by decide +kernel
theorem dX8_homeMany_18 : decode cX8_homeMany 18 = .ok (.iaload, 1) := by decide +kernel
theorem dX8_homeMany_19 : decode cX8_homeMany 19 = .ok (.bipush (-4), 2) := by decide +kernel
theorem dX8_homeMany_21 : decode cX8_homeMany 21 = .ok (.if_icmp .eq 7, 3) := by decide +kernel
theorem dX8_homeMany_24 : decode cX8_homeMany 24 = .ok (.iconst 1, 1) := by decide +kernel
theorem dX8_homeMany_25 : decode cX8_homeMany 25 = .ok (.goto 4, 3) := by decide +kernel
theorem dX8_homeMany_28 : decode cX8_homeMany 28 = .ok (.iconst 0, 1) := by decide +kernel
theorem dX8_homeMany_29 : decode cX8_homeMany 29 = .ok (.iadd, 1) := by decide +kernel
theorem dX8_homeMany_30 : decode cX8_homeMany 30 = .ok (.istore_n 1, 1) := by decide +kernel
theorem dX8_homeMany_31 : decode cX8_homeMany 31 = .ok (.iinc 2 1, 3) := by decide +kernel
theorem dX8_homeMany_34 : decode cX8_homeMany 34 = .ok (.goto (-30), 3) := by decide +kernel
theorem dX8_homeMany_37 : decode cX8_homeMany 37 = .ok (.iload_n 1, 1) := by decide +kernel
theorem dX8_homeMany_38 : decode cX8_homeMany 38 = .ok (.ireturn, 1) := by decide +kernel
theorem dX8_cost_0 : decode cX8_cost 0 = .ok (.iconst 0, 1) := by decide +kernel
theorem dX8_cost_1 : decode cX8_cost 1 = .ok (.istore_n 1, 1) := by decide +kernel
theorem dX8_cost_2 : decode cX8_cost 2 = .ok (.iconst 0, 1) := by decide +kernel
theorem dX8_cost_3 : decode cX8_cost 3 = .ok (.istore_n 2, 1) := by decide +kernel
theorem dX8_cost_4 : decode cX8_cost 4 = .ok (.iload_n 2, 1) := by decide +kernel
theorem dX8_cost_5 : decode cX8_cost 5 = .ok (.aload_n 0, 1) := by decide +kernel
theorem dX8_cost_6 : decode cX8_cost 6 = .ok (.getfield 173, 3) := by decide +kernel
theorem dX8_cost_9 : decode cX8_cost 9 = .ok (.if_icmp .ge 44, 3) := by decide +kernel
theorem dX8_cost_12 : decode cX8_cost 12 = .ok (.iload_n 1, 1) := by decide +kernel
theorem dX8_cost_13 : decode cX8_cost 13 = .ok (.aload_n 0, 1) := by decide +kernel
theorem dX8_cost_14 : decode cX8_cost 14 = .ok (.getfield 48, 3) := by decide +kernel
theorem dX8_cost_17 : decode cX8_cost 17 = .ok (.iload_n 2, 1) := by decide +kernel
theorem dX8_cost_18 : decode cX8_cost 18 = .ok (.iaload, 1) := by decide +kernel
theorem dX8_cost_19 : decode cX8_cost 19 = .ok (.bipush (-4), 2) := by decide +kernel
theorem dX8_cost_21 : decode cX8_cost 21 = .ok (.if_icmp .ne 8, 3) := by decide +kernel
theorem dX8_cost_24 : decode cX8_cost 24 = .ok (.bipush 120, 2) := by decide +kernel
theorem dX8_cost_26 : decode cX8_cost 26 = .ok (.goto 9, 3) := by decide +kernel
theorem dX8_cost_29 : decode cX8_cost 29 = .ok (.aload_n 0, 1) := by decide +kernel
theorem dX8_cost_30 : decode cX8_cost 30 = .ok (.getfield 48, 3) := by decide +kernel
theorem dX8_cost_33 : decode cX8_cost 33 = .ok (.iload_n 2, 1) := by decide +kernel
theorem dX8_cost_34 : decode cX8_cost 34 = .ok (.iaload, 1) := by decide +kernel
theorem dX8_cost_35 : decode cX8_cost 35 = .ok (.aload_n 0, 1) := by decide +kernel
theorem dX8_cost_36 : decode cX8_cost 36 = .ok (.getfield 7, 3) := by decide +kernel
theorem dX8_cost_39 : decode cX8_cost 39 = .ok (.bipush 21, 2) := by decide +kernel
theorem dX8_cost_41 : decode cX8_cost 41 = .ok (.iload_n 2, 1) := by decide +kernel
theorem dX8_cost_42 : decode cX8_cost 42 = .ok (.iadd, 1) := by decide +kernel
theorem dX8_cost_43 : decode cX8_cost 43 = .ok (.iaload, 1) := by decide +kernel
theorem dX8_cost_44 : decode cX8_cost 44 = .ok (.imul, 1) := by decide +kernel
theorem dX8_cost_45 : decode cX8_cost 45 = .ok (.iadd, 1) := by decide +kernel
theorem dX8_cost_46 : decode cX8_cost 46 = .ok (.istore_n 1, 1) := by decide +kernel
theorem dX8_cost_47 : decode cX8_cost 47 = .ok (.iinc 2 1, 3) := by decide +kernel
theorem dX8_cost_50 : decode cX8_cost 50 = .ok (.goto (-46), 3) := by decide +kernel
theorem dX8_cost_53 : decode cX8_cost 53 = .ok (.iload_n 1, 1) := by decide +kernel
theorem dX8_cost_54 : decode cX8_cost 54 = .ok (.ireturn, 1) := by decide +kernel
theorem dX8_home_0 : decode cX8_home 0 = .ok (.aload_n 0, 1) := by decide +kernel
theorem dX8_home_1 : decode cX8_home 1 = .ok (.iload_n 1, 1) := by decide +kernel
theorem dX8_home_2 : decode cX8_home 2 = .ok (.invokevirtual 194, 3) := by decide +kernel
theorem dX8_home_5 : decode cX8_home 5 = .ok (.ifCond .ne 5, 3) := by decide +kernel
theorem dX8_home_8 : decode cX8_home 8 = .ok (.iconst (-1), 1) := by decide +kernel
theorem dX8_home_9 : decode cX8_home 9 = .ok (.ireturn, 1) := by decide +kernel
theorem dX8_home_10 : decode cX8_home 10 = .ok (.aload_n 0, 1) := by decide +kernel
theorem dX8_home_11 : decode cX8_home 11 = .ok (.invokevirtual 236, 3) := by decide +kernel
theorem dX8_home_14 : decode cX8_home 14 = .ok (.aload_n 0, 1) := by decide +kernel
theorem dX8_home_15 : decode cX8_home 15 = .ok (.getfield 48, 3) := by decide +kernel
theorem dX8_home_18 : decode cX8_home 18 = .ok (.iload_n 1, 1) := by decide +kernel
theorem dX8_home_19 : decode cX8_home 19 = .ok (.iaload, 1) := by decide +kernel
theorem dX8_home_20 : decode cX8_home 20 = .ok (.ireturn, 1) := by decide +kernel
theorem dX8_at_0 : decode cX8_at 0 = .ok (.aload_n 0, 1) := by decide +kernel
theorem dX8_at_1 : decode cX8_at 1 = .ok (.iload_n 1, 1) := by decide +kernel
theorem dX8_at_2 : decode cX8_at 2 = .ok (.invokevirtual 194, 3) := by decide +kernel
theorem dX8_at_5 : decode cX8_at 5 = .ok (.ifCond .eq 15, 3) := by decide +kernel
theorem dX8_at_8 : decode cX8_at 8 = .ok (.iload_n 2, 1) := by decide +kernel
theorem dX8_at_9 : decode cX8_at 9 = .ok (.i2l, 1) := by decide +kernel
theorem dX8_at_10 : decode cX8_at 10 = .ok (.lconst 0, 1) := by decide +kernel
theorem dX8_at_11 : decode cX8_at 11 = .ok (.ldc2_w 239, 3) := by decide +kernel
theorem dX8_at_14 : decode cX8_at 14 = .ok (.invokestatic 74, 3) := by decide +kernel
theorem dX8_at_17 : decode cX8_at 17 = .ok (.ifCond .ne 5, 3) := by decide +kernel
theorem dX8_at_20 : decode cX8_at 20 = .ok (.iconst (-1), 1) := by decide +kernel
theorem dX8_at_21 : decode cX8_at 21 = .ok (.ireturn, 1) := by decide +kernel
theorem dX8_at_22 : decode cX8_at 22 = .ok (.aload_n 0, 1) := by decide +kernel
theorem dX8_at_23 : decode cX8_at 23 = .ok (.invokevirtual 236, 3) := by decide +kernel
theorem dX8_at_26 : decode cX8_at 26 = .ok (.aload_n 0, 1) := by decide +kernel
theorem dX8_at_27 : decode cX8_at 27 = .ok (.getfield 51, 3) := by decide +kernel
theorem dX8_at_30 : decode cX8_at 30 = .ok (.iconst 4, 1) := by decide +kernel
theorem dX8_at_31 : decode cX8_at 31 = .ok (.iload_n 2, 1) := by decide +kernel
theorem dX8_at_32 : decode cX8_at 32 = .ok (.imul, 1) := by decide +kernel
theorem dX8_at_33 : decode cX8_at 33 = .ok (.iload_n 1, 1) := by decide +kernel
theorem dX8_at_34 : decode cX8_at 34 = .ok (.iadd, 1) := by decide +kernel
theorem dX8_at_35 : decode cX8_at 35 = .ok (.iaload, 1) := by decide +kernel
theorem dX8_at_36 : decode cX8_at 36 = .ok (.ireturn, 1) := by decide +kernel
theorem dX8_bump_0 : decode cX8_bump 0 = .ok (.iload_n 1, 1) := by decide +kernel
theorem dX8_bump_1 : decode cX8_bump 1 = .ok (.i2l, 1) := by decide +kernel
theorem dX8_bump_2 : decode cX8_bump 2 = .ok (.lconst 0, 1) := by decide +kernel
theorem dX8_bump_3 : decode cX8_bump 3 = .ok (.ldc2_w 189, 3) := by decide +kernel
theorem dX8_bump_6 : decode cX8_bump 6 = .ok (.invokestatic 74, 3) := by decide +kernel
theorem dX8_bump_9 : decode cX8_bump 9 = .ok (.ifCond .ne 5, 3) := by decide +kernel
theorem dX8_bump_12 : decode cX8_bump 12 = .ok (.iconst (-1), 1) := by decide +kernel
theorem dX8_bump_13 : decode cX8_bump 13 = .ok (.ireturn, 1) := by decide +kernel
theorem dX8_bump_14 : decode cX8_bump 14 = .ok (.aload_n 0, 1) := by decide +kernel
theorem dX8_bump_15 : decode cX8_bump 15 = .ok (.invokevirtual 236, 3) := by decide +kernel
theorem dX8_bump_18 : decode cX8_bump 18 = .ok (.iload_n 1, 1) := by decide +kernel
theorem dX8_bump_19 : decode cX8_bump 19 = .ok (.ifCond .ne 10, 3) := by decide +kernel
theorem dX8_bump_22 : decode cX8_bump 22 = .ok (.aload_n 0, 1) := by decide +kernel
theorem dX8_bump_23 : decode cX8_bump 23 = .ok (.getfield 223, 3) := by decide +kernel
theorem dX8_bump_26 : decode cX8_bump 26 = .ok (.goto 19, 3) := by decide +kernel
theorem dX8_bump_29 : decode cX8_bump 29 = .ok (.iload_n 1, 1) := by decide +kernel
theorem dX8_bump_30 : decode cX8_bump 30 = .ok (.iconst 1, 1) := by decide +kernel
theorem dX8_bump_31 : decode cX8_bump 31 = .ok (.if_icmp .ne 10, 3) := by decide +kernel
theorem dX8_bump_34 : decode cX8_bump 34 = .ok (.aload_n 0, 1) := by decide +kernel
theorem dX8_bump_35 : decode cX8_bump 35 = .ok (.getfield 226, 3) := by decide +kernel
theorem dX8_bump_38 : decode cX8_bump 38 = .ok (.goto 7, 3) := by decide +kernel
theorem dX8_bump_41 : decode cX8_bump 41 = .ok (.aload_n 0, 1) := by decide +kernel
theorem dX8_bump_42 : decode cX8_bump 42 = .ok (.getfield 229, 3) := by decide +kernel
theorem dX8_bump_45 : decode cX8_bump 45 = .ok (.ireturn, 1) := by decide +kernel
theorem dX8_sum_0 : decode cX8_sum 0 = .ok (.iload_n 1, 1) := by decide +kernel
theorem dX8_sum_1 : decode cX8_sum 1 = .ok (.i2l, 1) := by decide +kernel
theorem dX8_sum_2 : decode cX8_sum 2 = .ok (.lconst 0, 1) := by decide +kernel
theorem dX8_sum_3 : decode cX8_sum 3 = .ok (.ldc2_w 152, 3) := by decide +kernel
theorem dX8_sum_6 : decode cX8_sum 6 = .ok (.invokestatic 74, 3) := by decide +kernel
theorem dX8_sum_9 : decode cX8_sum 9 = .ok (.ifCond .ne 5, 3) := by decide +kernel
theorem dX8_sum_12 : decode cX8_sum 12 = .ok (.iconst (-1), 1) := by decide +kernel
theorem dX8_sum_13 : decode cX8_sum 13 = .ok (.ireturn, 1) := by decide +kernel
theorem dX8_sum_14 : decode cX8_sum 14 = .ok (.aload_n 0, 1) := by decide +kernel
theorem dX8_sum_15 : decode cX8_sum 15 = .ok (.invokevirtual 236, 3) := by decide +kernel
theorem dX8_sum_18 : decode cX8_sum 18 = .ok (.iload_n 1, 1) := by decide +kernel
theorem dX8_sum_19 : decode cX8_sum 19 = .ok (.tableswitch 49 0 3 #[29, 34, 39, 44], 29) := by decide +kernel
theorem dX8_sum_48 : decode cX8_sum 48 = .ok (.aload_n 0, 1) := by decide +kernel
theorem dX8_sum_49 : decode cX8_sum 49 = .ok (.invokevirtual 241, 3) := by decide +kernel
theorem dX8_sum_52 : decode cX8_sum 52 = .ok (.ireturn, 1) := by decide +kernel
theorem dX8_sum_53 : decode cX8_sum 53 = .ok (.aload_n 0, 1) := by decide +kernel
theorem dX8_sum_54 : decode cX8_sum 54 = .ok (.invokevirtual 244, 3) := by decide +kernel
theorem dX8_sum_57 : decode cX8_sum 57 = .ok (.ireturn, 1) := by decide +kernel
theorem dX8_sum_58 : decode cX8_sum 58 = .ok (.aload_n 0, 1) := by decide +kernel
theorem dX8_sum_59 : decode cX8_sum 59 = .ok (.getfield 211, 3) := by decide +kernel
theorem dX8_sum_62 : decode cX8_sum 62 = .ok (.ireturn, 1) := by decide +kernel
theorem dX8_sum_63 : decode cX8_sum 63 = .ok (.aload_n 0, 1) := by decide +kernel
theorem dX8_sum_64 : decode cX8_sum 64 = .ok (.getfield 220, 3) := by decide +kernel
theorem dX8_sum_67 : decode cX8_sum 67 = .ok (.ireturn, 1) := by decide +kernel
theorem dX8_sum_68 : decode cX8_sum 68 = .ok (.aload_n 0, 1) := by decide +kernel
theorem dX8_sum_69 : decode cX8_sum 69 = .ok (.getfield 217, 3) := by decide +kernel
theorem dX8_sum_72 : decode cX8_sum 72 = .ok (.ireturn, 1) := by decide +kernel
theorem dX8_bitsOf_0 : decode cX8_bitsOf 0 = .ok (.iconst 0, 1) := by decide +kernel
theorem dX8_bitsOf_1 : decode cX8_bitsOf 1 = .ok (.istore_n 1, 1) := by decide +kernel
theorem dX8_bitsOf_2 : decode cX8_bitsOf 2 = .ok (.iconst 0, 1) := by decide +kernel
theorem dX8_bitsOf_3 : decode cX8_bitsOf 3 = .ok (.istore_n 2, 1) := by decide +kernel
theorem dX8_bitsOf_4 : decode cX8_bitsOf 4 = .ok (.iload_n 2, 1) := by decide +kernel
theorem dX8_bitsOf_5 : decode cX8_bitsOf 5 = .ok (.bipush 8, 2) := by decide +kernel
theorem dX8_bitsOf_7 : decode cX8_bitsOf 7 = .ok (.if_icmp .ge 17, 3) := by decide +kernel
theorem dX8_bitsOf_10 : decode cX8_bitsOf 10 = .ok (.iload_n 1, 1) := by decide +kernel
theorem dX8_bitsOf_11 : decode cX8_bitsOf 11 = .ok (.iload_n 0, 1) := by decide +kernel
theorem dX8_bitsOf_12 : decode cX8_bitsOf 12 = .ok (.iload_n 2, 1) := by decide +kernel
theorem dX8_bitsOf_13 : decode cX8_bitsOf 13 = .ok (.ishr, 1) := by decide +kernel
theorem dX8_bitsOf_14 : decode cX8_bitsOf 14 = .ok (.iconst 1, 1) := by decide +kernel
theorem dX8_bitsOf_15 : decode cX8_bitsOf 15 = .ok (.iand, 1) := by decide +kernel
theorem dX8_bitsOf_16 : decode cX8_bitsOf 16 = .ok (.iadd, 1) := by decide +kernel
theorem dX8_bitsOf_17 : decode cX8_bitsOf 17 = .ok (.istore_n 1, 1) := by decide +kernel
theorem dX8_bitsOf_18 : decode cX8_bitsOf 18 = .ok (.iinc 2 1, 3) := by decide +kernel
theorem dX8_bitsOf_21 : decode cX8_bitsOf 21 = .ok (.goto (-17), 3) := by decide +kernel
theorem dX8_bitsOf_24 : decode cX8_bitsOf 24 = .ok (.iload_n 1, 1) := by decide +kernel
theorem dX8_bitsOf_25 : decode cX8_bitsOf 25 = .ok (.ireturn, 1) := by decide +kernel
theorem dX8_copies_0 : decode cX8_copies 0 = .ok (.iconst 0, 1) := by decide +kernel
theorem dX8_copies_1 : decode cX8_copies 1 = .ok (.istore_n 3, 1) := by decide +kernel
theorem dX8_copies_2 : decode cX8_copies 2 = .ok (.iload_n 3, 1) := by decide +kernel
theorem dX8_copies_3 : decode cX8_copies 3 = .ok (.bipush 25, 2) := by decide +kernel
theorem dX8_copies_5 : decode cX8_copies 5 = .ok (.if_icmp .ge 25, 3) := by decide +kernel
theorem dX8_copies_8 : decode cX8_copies 8 = .ok (.aload_n 0, 1) := by decide +kernel
theorem dX8_copies_9 : decode cX8_copies 9 = .ok (.getfield 7, 3) := by decide +kernel
theorem dX8_copies_12 : decode cX8_copies 12 = .ok (.iload_n 2, 1) := by decide +kernel
theorem dX8_copies_13 : decode cX8_copies 13 = .ok (.iload_n 3, 1) := by decide +kernel
theorem dX8_copies_14 : decode cX8_copies 14 = .ok (.iadd, 1) := by decide +kernel
theorem dX8_copies_15 : decode cX8_copies 15 = .ok (.aload_n 0, 1) := by decide +kernel
theorem dX8_copies_16 : decode cX8_copies 16 = .ok (.getfield 7, 3) := by decide +kernel
theorem dX8_copies_19 : decode cX8_copies 19 = .ok (.iload_n 1, 1) := by decide +kernel
theorem dX8_copies_20 : decode cX8_copies 20 = .ok (.iload_n 3, 1) := by decide +kernel
theorem dX8_copies_21 : decode cX8_copies 21 = .ok (.iadd, 1) := by decide +kernel
theorem dX8_copies_22 : decode cX8_copies 22 = .ok (.iaload, 1) := by decide +kernel
theorem dX8_copies_23 : decode cX8_copies 23 = .ok (.iastore, 1) := by decide +kernel
theorem dX8_copies_24 : decode cX8_copies 24 = .ok (.iinc 3 1, 3) := by decide +kernel
theorem dX8_copies_27 : decode cX8_copies 27 = .ok (.goto (-25), 3) := by decide +kernel
theorem dX8_copies_30 : decode cX8_copies 30 = .ok (.return_, 1) := by decide +kernel
theorem dX8_isFewer_0 : decode cX8_isFewer 0 = .ok (.iload_n 2, 1) := by decide +kernel
theorem dX8_isFewer_1 : decode cX8_isFewer 1 = .ok (.bipush (-4), 2) := by decide +kernel
theorem dX8_isFewer_3 : decode cX8_isFewer 3 = .ok (.if_icmp .eq 14, 3) := by decide +kernel
theorem dX8_isFewer_6 : decode cX8_isFewer 6 = .ok (.iload_n 1, 1) := by decide +kernel
theorem dX8_isFewer_7 : decode cX8_isFewer 7 = .ok (.invokestatic 247, 3) := by decide +kernel
theorem dX8_isFewer_10 : decode cX8_isFewer 10 = .ok (.iload_n 2, 1) := by decide +kernel
theorem dX8_isFewer_11 : decode cX8_isFewer 11 = .ok (.invokestatic 247, 3) := by decide +kernel
theorem dX8_isFewer_14 : decode cX8_isFewer 14 = .ok (.if_icmp .ge 7, 3) := by decide +kernel
theorem dX8_isFewer_17 : decode cX8_isFewer 17 = .ok (.iconst 1, 1) := by decide +kernel
theorem dX8_isFewer_18 : decode cX8_isFewer 18 = .ok (.goto 4, 3) := by decide +kernel
theorem dX8_isFewer_21 : decode cX8_isFewer 21 = .ok (.iconst 0, 1) := by decide +kernel
theorem dX8_isFewer_22 : decode cX8_isFewer 22 = .ok (.ireturn, 1) := by decide +kernel
theorem dX8_fewest_0 : decode cX8_fewest 0 = .ok (.iload_n 1, 1) := by decide +kernel
theorem dX8_fewest_1 : decode cX8_fewest 1 = .ok (.i2l, 1) := by decide +kernel
theorem dX8_fewest_2 : decode cX8_fewest 2 = .ok (.lconst 0, 1) := by decide +kernel
theorem dX8_fewest_3 : decode cX8_fewest 3 = .ok (.lconst 1, 1) := by decide +kernel
theorem dX8_fewest_4 : decode cX8_fewest 4 = .ok (.invokestatic 74, 3) := by decide +kernel
theorem dX8_fewest_7 : decode cX8_fewest 7 = .ok (.ifCond .ne 5, 3) := by decide +kernel
theorem dX8_fewest_10 : decode cX8_fewest 10 = .ok (.iconst (-1), 1) := by decide +kernel
theorem dX8_fewest_11 : decode cX8_fewest 11 = .ok (.ireturn, 1) := by decide +kernel
theorem dX8_fewest_12 : decode cX8_fewest 12 = .ok (.aload_n 0, 1) := by decide +kernel
theorem dX8_fewest_13 : decode cX8_fewest 13 = .ok (.getfield 7, 3) := by decide +kernel
theorem dX8_fewest_16 : decode cX8_fewest 16 = .ok (.bipush 8, 2) := by decide +kernel
theorem dX8_fewest_18 : decode cX8_fewest 18 = .ok (.iaload, 1) := by decide +kernel
theorem dX8_fewest_19 : decode cX8_fewest 19 = .ok (.istore_n 2, 1) := by decide +kernel
theorem dX8_fewest_20 : decode cX8_fewest 20 = .ok (.bipush (-4), 2) := by decide +kernel
theorem dX8_fewest_22 : decode cX8_fewest 22 = .ok (.istore_n 3, 1) := by decide +kernel
theorem dX8_fewest_23 : decode cX8_fewest 23 = .ok (.iconst 0, 1) := by decide +kernel
theorem dX8_fewest_24 : decode cX8_fewest 24 = .ok (.istore 4, 2) := by decide +kernel
theorem dX8_fewest_26 : decode cX8_fewest 26 = .ok (.iload 4, 2) := by decide +kernel
theorem dX8_fewest_28 : decode cX8_fewest 28 = .ok (.iconst 1, 1) := by decide +kernel
theorem dX8_fewest_29 : decode cX8_fewest 29 = .ok (.aload_n 0, 1) := by decide +kernel
theorem dX8_fewest_30 : decode cX8_fewest 30 = .ok (.getfield 13, 3) := by decide +kernel
theorem dX8_fewest_33 : decode cX8_fewest 33 = .ok (.ishl, 1) := by decide +kernel
theorem dX8_fewest_34 : decode cX8_fewest 34 = .ok (.if_icmp .ge 48, 3) := by decide +kernel
theorem dX8_fewest_37 : decode cX8_fewest 37 = .ok (.aload_n 0, 1) := by decide +kernel
theorem dX8_fewest_38 : decode cX8_fewest 38 = .ok (.iload 4, 2) := by decide +kernel
theorem dX8_fewest_40 : decode cX8_fewest 40 = .ok (.iload_n 3, 1) := by decide +kernel
theorem dX8_fewest_41 : decode cX8_fewest 41 = .ok (.invokevirtual 250, 3) := by decide +kernel
theorem dX8_fewest_44 : decode cX8_fewest 44 = .ok (.ifCond .eq 32, 3) := by decide +kernel
theorem dX8_fewest_47 : decode cX8_fewest 47 = .ok (.aload_n 0, 1) := by decide +kernel
theorem dX8_fewest_48 : decode cX8_fewest 48 = .ok (.getfield 7, 3) := by decide +kernel
theorem dX8_fewest_51 : decode cX8_fewest 51 = .ok (.bipush 8, 2) := by decide +kernel
theorem dX8_fewest_53 : decode cX8_fewest 53 = .ok (.iload 4, 2) := by decide +kernel
theorem dX8_fewest_55 : decode cX8_fewest 55 = .ok (.iastore, 1) := by decide +kernel
theorem dX8_fewest_56 : decode cX8_fewest 56 = .ok (.aload_n 0, 1) := by decide +kernel
theorem dX8_fewest_57 : decode cX8_fewest 57 = .ok (.invokevirtual 236, 3) := by decide +kernel
theorem dX8_fewest_60 : decode cX8_fewest 60 = .ok (.aload_n 0, 1) := by decide +kernel
theorem dX8_fewest_61 : decode cX8_fewest 61 = .ok (.getfield 223, 3) := by decide +kernel
theorem dX8_fewest_64 : decode cX8_fewest 64 = .ok (.bipush (-4), 2) := by decide +kernel
theorem dX8_fewest_66 : decode cX8_fewest 66 = .ok (.if_icmp .ne 8, 3) := by decide +kernel
theorem dX8_fewest_69 : decode cX8_fewest 69 = .ok (.iload 4, 2) := by decide +kernel
theorem dX8_fewest_71 : decode cX8_fewest 71 = .ok (.goto 4, 3) := by decide +kernel
theorem dX8_fewest_74 : decode cX8_fewest 74 = .ok (.iload_n 3, 1) := by decide +kernel
theorem dX8_fewest_75 : decode cX8_fewest 75 = .ok (.istore_n 3, 1) := by decide +kernel
theorem dX8_fewest_76 : decode cX8_fewest 76 = .ok (.iinc 4 1, 3) := by decide +kernel
theorem dX8_fewest_79 : decode cX8_fewest 79 = .ok (.goto (-53), 3) := by decide +kernel
theorem dX8_fewest_82 : decode cX8_fewest 82 = .ok (.aload_n 0, 1) := by decide +kernel
theorem dX8_fewest_83 : decode cX8_fewest 83 = .ok (.getfield 7, 3) := by decide +kernel
theorem dX8_fewest_86 : decode cX8_fewest 86 = .ok (.bipush 8, 2) := by decide +kernel
theorem dX8_fewest_88 : decode cX8_fewest 88 = .ok (.iload_n 2, 1) := by decide +kernel
theorem dX8_fewest_89 : decode cX8_fewest 89 = .ok (.iastore, 1) := by decide +kernel
theorem dX8_fewest_90 : decode cX8_fewest 90 = .ok (.iload_n 3, 1) := by decide +kernel
theorem dX8_fewest_91 : decode cX8_fewest 91 = .ok (.bipush (-4), 2) := by decide +kernel
theorem dX8_fewest_93 : decode cX8_fewest 93 = .ok (.if_icmp .eq 8, 3) := by decide +kernel
theorem dX8_fewest_96 : decode cX8_fewest 96 = .ok (.iload_n 1, 1) := by decide +kernel
theorem dX8_fewest_97 : decode cX8_fewest 97 = .ok (.iconst 1, 1) := by decide +kernel
theorem dX8_fewest_98 : decode cX8_fewest 98 = .ok (.if_icmp .ne 7, 3) := by decide +kernel
theorem dX8_fewest_101 : decode cX8_fewest 101 = .ok (.iload_n 3, 1) := by decide +kernel
theorem dX8_fewest_102 : decode cX8_fewest 102 = .ok (.goto 7, 3) := by decide +kernel
theorem dX8_fewest_105 : decode cX8_fewest 105 = .ok (.iload_n 3, 1) := by decide +kernel
theorem dX8_fewest_106 : decode cX8_fewest 106 = .ok (.invokestatic 247, 3) := by decide +kernel
theorem dX8_fewest_109 : decode cX8_fewest 109 = .ok (.ireturn, 1) := by decide +kernel
theorem dX8_guards_0 : decode cX8_guards 0 = .ok (.iload_n 1, 1) := by decide +kernel
theorem dX8_guards_1 : decode cX8_guards 1 = .ok (.i2l, 1) := by decide +kernel
theorem dX8_guards_2 : decode cX8_guards 2 = .ok (.lconst 0, 1) := by decide +kernel
theorem dX8_guards_3 : decode cX8_guards 3 = .ok (.lconst 1, 1) := by decide +kernel
theorem dX8_guards_4 : decode cX8_guards 4 = .ok (.invokestatic 74, 3) := by decide +kernel
theorem dX8_guards_7 : decode cX8_guards 7 = .ok (.ifCond .ne 5, 3) := by decide +kernel
theorem dX8_guards_10 : decode cX8_guards 10 = .ok (.iconst (-1), 1) := by decide +kernel
theorem dX8_guards_11 : decode cX8_guards 11 = .ok (.ireturn, 1) := by decide +kernel
theorem dX8_guards_12 : decode cX8_guards 12 = .ok (.aload_n 0, 1) := by decide +kernel
theorem dX8_guards_13 : decode cX8_guards 13 = .ok (.getfield 7, 3) := by decide +kernel
theorem dX8_guards_16 : decode cX8_guards 16 = .ok (.bipush 8, 2) := by decide +kernel
theorem dX8_guards_18 : decode cX8_guards 18 = .ok (.iaload, 1) := by decide +kernel
theorem dX8_guards_19 : decode cX8_guards 19 = .ok (.istore_n 2, 1) := by decide +kernel
theorem dX8_guards_20 : decode cX8_guards 20 = .ok (.bipush (-4), 2) := by decide +kernel
theorem dX8_guards_22 : decode cX8_guards 22 = .ok (.istore_n 3, 1) := by decide +kernel
theorem dX8_guards_23 : decode cX8_guards 23 = .ok (.ldc 254, 2) := by decide +kernel
theorem dX8_guards_25 : decode cX8_guards 25 = .ok (.istore 4, 2) := by decide +kernel
theorem dX8_guards_27 : decode cX8_guards 27 = .ok (.iconst 0, 1) := by decide +kernel
theorem dX8_guards_28 : decode cX8_guards 28 = .ok (.istore 5, 2) := by decide +kernel
theorem dX8_guards_30 : decode cX8_guards 30 = .ok (.iload 5, 2) := by decide +kernel
theorem dX8_guards_32 : decode cX8_guards 32 = .ok (.iconst 1, 1) := by decide +kernel
theorem dX8_guards_33 : decode cX8_guards 33 = .ok (.aload_n 0, 1) := by decide +kernel
theorem dX8_guards_34 : decode cX8_guards 34 = .ok (.getfield 13, 3) := by decide +kernel
theorem dX8_guards_37 : decode cX8_guards 37 = .ok (.ishl, 1) := by decide +kernel
theorem dX8_guards_38 : decode cX8_guards 38 = .ok (.if_icmp .ge 77, 3) := by decide +kernel
theorem dX8_guards_41 : decode cX8_guards 41 = .ok (.aload_n 0, 1) := by decide +kernel
theorem dX8_guards_42 : decode cX8_guards 42 = .ok (.getfield 7, 3) := by decide +kernel
theorem dX8_guards_45 : decode cX8_guards 45 = .ok (.bipush 8, 2) := by decide +kernel
theorem dX8_guards_47 : decode cX8_guards 47 = .ok (.iload 5, 2) := by decide +kernel
theorem dX8_guards_49 : decode cX8_guards 49 = .ok (.iastore, 1) := by decide +kernel
theorem dX8_guards_50 : decode cX8_guards 50 = .ok (.aload_n 0, 1) := by decide +kernel
theorem dX8_guards_51 : decode cX8_guards 51 = .ok (.invokevirtual 236, 3) := by decide +kernel
theorem dX8_guards_54 : decode cX8_guards 54 = .ok (.aload_n 0, 1) := by decide +kernel
theorem dX8_guards_55 : decode cX8_guards 55 = .ok (.invokevirtual 244, 3) := by decide +kernel
theorem dX8_guards_58 : decode cX8_guards 58 = .ok (.aload_n 0, 1) := by decide +kernel
theorem dX8_guards_59 : decode cX8_guards 59 = .ok (.getfield 173, 3) := by decide +kernel
theorem dX8_guards_62 : decode cX8_guards 62 = .ok (.if_icmp .ne 16, 3) := by decide +kernel
theorem dX8_guards_65 : decode cX8_guards 65 = .ok (.aload_n 0, 1) := by decide +kernel
theorem dX8_guards_66 : decode cX8_guards 66 = .ok (.invokevirtual 241, 3) := by decide +kernel
theorem dX8_guards_69 : decode cX8_guards 69 = .ok (.iload 4, 2) := by decide +kernel
theorem dX8_guards_71 : decode cX8_guards 71 = .ok (.if_icmp .ge 7, 3) := by decide +kernel
theorem dX8_guards_74 : decode cX8_guards 74 = .ok (.iconst 1, 1) := by decide +kernel
theorem dX8_guards_75 : decode cX8_guards 75 = .ok (.goto 4, 3) := by decide +kernel
theorem dX8_guards_78 : decode cX8_guards 78 = .ok (.iconst 0, 1) := by decide +kernel
theorem dX8_guards_79 : decode cX8_guards 79 = .ok (.istore 6, 2) := by decide +kernel
theorem dX8_guards_81 : decode cX8_guards 81 = .ok (.iload 6, 2) := by decide +kernel
theorem dX8_guards_83 : decode cX8_guards 83 = .ok (.ifCond .eq 8, 3) := by decide +kernel
theorem dX8_guards_86 : decode cX8_guards 86 = .ok (.iload 5, 2) := by decide +kernel
theorem dX8_guards_88 : decode cX8_guards 88 = .ok (.goto 4, 3) := by decide +kernel
theorem dX8_guards_91 : decode cX8_guards 91 = .ok (.iload_n 3, 1) := by decide +kernel
theorem dX8_guards_92 : decode cX8_guards 92 = .ok (.istore_n 3, 1) := by decide +kernel
theorem dX8_guards_93 : decode cX8_guards 93 = .ok (.iload 6, 2) := by decide +kernel
theorem dX8_guards_95 : decode cX8_guards 95 = .ok (.ifCond .eq 10, 3) := by decide +kernel
theorem dX8_guards_98 : decode cX8_guards 98 = .ok (.aload_n 0, 1) := by decide +kernel
theorem dX8_guards_99 : decode cX8_guards 99 = .ok (.invokevirtual 241, 3) := by decide +kernel
theorem dX8_guards_102 : decode cX8_guards 102 = .ok (.goto 5, 3) := by decide +kernel
theorem dX8_guards_105 : decode cX8_guards 105 = .ok (.iload 4, 2) := by decide +kernel
theorem dX8_guards_107 : decode cX8_guards 107 = .ok (.istore 4, 2) := by decide +kernel
theorem dX8_guards_109 : decode cX8_guards 109 = .ok (.iinc 5 1, 3) := by decide +kernel
theorem dX8_guards_112 : decode cX8_guards 112 = .ok (.goto (-82), 3) := by decide +kernel
theorem dX8_guards_115 : decode cX8_guards 115 = .ok (.aload_n 0, 1) := by decide +kernel
theorem dX8_guards_116 : decode cX8_guards 116 = .ok (.getfield 7, 3) := by decide +kernel
theorem dX8_guards_119 : decode cX8_guards 119 = .ok (.bipush 8, 2) := by decide +kernel
theorem dX8_guards_121 : decode cX8_guards 121 = .ok (.iload_n 2, 1) := by decide +kernel
theorem dX8_guards_122 : decode cX8_guards 122 = .ok (.iastore, 1) := by decide +kernel
theorem dX8_guards_123 : decode cX8_guards 123 = .ok (.iload_n 3, 1) := by decide +kernel
theorem dX8_guards_124 : decode cX8_guards 124 = .ok (.bipush (-4), 2) := by decide +kernel
theorem dX8_guards_126 : decode cX8_guards 126 = .ok (.if_icmp .eq 8, 3) := by decide +kernel
theorem dX8_guards_129 : decode cX8_guards 129 = .ok (.iload_n 1, 1) := by decide +kernel
theorem dX8_guards_130 : decode cX8_guards 130 = .ok (.iconst 1, 1) := by decide +kernel
theorem dX8_guards_131 : decode cX8_guards 131 = .ok (.if_icmp .ne 7, 3) := by decide +kernel
theorem dX8_guards_134 : decode cX8_guards 134 = .ok (.iload_n 3, 1) := by decide +kernel
theorem dX8_guards_135 : decode cX8_guards 135 = .ok (.goto 5, 3) := by decide +kernel
theorem dX8_guards_138 : decode cX8_guards 138 = .ok (.iload 4, 2) := by decide +kernel
theorem dX8_guards_140 : decode cX8_guards 140 = .ok (.ireturn, 1) := by decide +kernel
theorem dX8_isAllowed_0 : decode cX8_isAllowed 0 = .ok (.iconst 1, 1) := by decide +kernel
theorem dX8_isAllowed_1 : decode cX8_isAllowed 1 = .ok (.istore_n 2, 1) := by decide +kernel
theorem dX8_isAllowed_2 : decode cX8_isAllowed 2 = .ok (.iconst 0, 1) := by decide +kernel
theorem dX8_isAllowed_3 : decode cX8_isAllowed 3 = .ok (.istore_n 3, 1) := by decide +kernel
theorem dX8_isAllowed_4 : decode cX8_isAllowed 4 = .ok (.iload_n 3, 1) := by decide +kernel
theorem dX8_isAllowed_5 : decode cX8_isAllowed 5 = .ok (.aload_n 0, 1) := by decide +kernel
theorem dX8_isAllowed_6 : decode cX8_isAllowed 6 = .ok (.getfield 176, 3) := by decide +kernel
theorem dX8_isAllowed_9 : decode cX8_isAllowed 9 = .ok (.if_icmp .ge 51, 3) := by decide +kernel
theorem dX8_isAllowed_12 : decode cX8_isAllowed 12 = .ok (.iload_n 2, 1) := by decide +kernel
theorem dX8_isAllowed_13 : decode cX8_isAllowed 13 = .ok (.ifCond .eq 39, 3) := by decide +kernel
theorem dX8_isAllowed_16 : decode cX8_isAllowed 16 = .ok (.iload_n 1, 1) := by decide +kernel
theorem dX8_isAllowed_17 : decode cX8_isAllowed 17 = .ok (.aload_n 0, 1) := by decide +kernel
theorem dX8_isAllowed_18 : decode cX8_isAllowed 18 = .ok (.getfield 17, 3) := by decide +kernel
theorem dX8_isAllowed_21 : decode cX8_isAllowed 21 = .ok (.iconst 2, 1) := by decide +kernel
theorem dX8_isAllowed_22 : decode cX8_isAllowed 22 = .ok (.iload_n 3, 1) := by decide +kernel
theorem dX8_isAllowed_23 : decode cX8_isAllowed 23 = .ok (.imul, 1) := by decide +kernel
theorem dX8_isAllowed_24 : decode cX8_isAllowed 24 = .ok (.iaload, 1) := by decide +kernel
theorem dX8_isAllowed_25 : decode cX8_isAllowed 25 = .ok (.ishr, 1) := by decide +kernel
theorem dX8_isAllowed_26 : decode cX8_isAllowed 26 = .ok (.iconst 1, 1) := by decide +kernel
theorem dX8_isAllowed_27 : decode cX8_isAllowed 27 = .ok (.iand, 1) := by decide +kernel
theorem dX8_isAllowed_28 : decode cX8_isAllowed 28 = .ok (.ifCond .eq 20, 3) := by decide +kernel
theorem dX8_isAllowed_31 : decode cX8_isAllowed 31 = .ok (.iload_n 1, 1) := by decide +kernel
theorem dX8_isAllowed_32 : decode cX8_isAllowed 32 = .ok (.aload_n 0, 1) := by decide +kernel
theorem dX8_isAllowed_33 : decode cX8_isAllowed 33 = .ok (.getfield 17, 3) := by decide +kernel
theorem dX8_isAllowed_36 : decode cX8_isAllowed 36 = .ok (.iconst 2, 1) := by decide +kernel
theorem dX8_isAllowed_37 : decode cX8_isAllowed 37 = .ok (.iload_n 3, 1) := by decide +kernel
theorem dX8_isAllowed_38 : decode cX8_isAllowed 38 = .ok (.imul, 1) := by decide +kernel
theorem dX8_isAllowed_39 : decode cX8_isAllowed 39 = .ok (.iconst 1, 1) := by decide +kernel
theorem dX8_isAllowed_40 : decode cX8_isAllowed 40 = .ok (.iadd, 1) := by decide +kernel
theorem dX8_isAllowed_41 : decode cX8_isAllowed 41 = .ok (.iaload, 1) := by decide +kernel
theorem dX8_isAllowed_42 : decode cX8_isAllowed 42 = .ok (.ishr, 1) := by decide +kernel
theorem dX8_isAllowed_43 : decode cX8_isAllowed 43 = .ok (.iconst 1, 1) := by decide +kernel
theorem dX8_isAllowed_44 : decode cX8_isAllowed 44 = .ok (.iand, 1) := by decide +kernel
theorem dX8_isAllowed_45 : decode cX8_isAllowed 45 = .ok (.ifCond .ne 7, 3) := by decide +kernel
theorem dX8_isAllowed_48 : decode cX8_isAllowed 48 = .ok (.iconst 1, 1) := by decide +kernel
theorem dX8_isAllowed_49 : decode cX8_isAllowed 49 = .ok (.goto 4, 3) := by decide +kernel
theorem dX8_isAllowed_52 : decode cX8_isAllowed 52 = .ok (.iconst 0, 1) := by decide +kernel
theorem dX8_isAllowed_53 : decode cX8_isAllowed 53 = .ok (.istore_n 2, 1) := by decide +kernel
theorem dX8_isAllowed_54 : decode cX8_isAllowed 54 = .ok (.iinc 3 1, 3) := by decide +kernel
theorem dX8_isAllowed_57 : decode cX8_isAllowed 57 = .ok (.goto (-53), 3) := by decide +kernel
theorem dX8_isAllowed_60 : decode cX8_isAllowed 60 = .ok (.iload_n 2, 1) := by decide +kernel
theorem dX8_isAllowed_61 : decode cX8_isAllowed 61 = .ok (.ireturn, 1) := by decide +kernel
theorem dX8_magpiesIn_0 : decode cX8_magpiesIn 0 = .ok (.iconst 0, 1) := by decide +kernel
theorem dX8_magpiesIn_1 : decode cX8_magpiesIn 1 = .ok (.istore_n 2, 1) := by decide +kernel
theorem dX8_magpiesIn_2 : decode cX8_magpiesIn 2 = .ok (.iload_n 2, 1) := by decide +kernel
theorem dX8_magpiesIn_3 : decode cX8_magpiesIn 3 = .ok (.aload_n 0, 1) := by decide +kernel
theorem dX8_magpiesIn_4 : decode cX8_magpiesIn 4 = .ok (.getfield 13, 3) := by decide +kernel
theorem dX8_magpiesIn_7 : decode cX8_magpiesIn 7 = .ok (.if_icmp .ge 34, 3) := by decide +kernel
theorem dX8_magpiesIn_10 : decode cX8_magpiesIn 10 = .ok (.aload_n 0, 1) := by decide +kernel
theorem dX8_magpiesIn_11 : decode cX8_magpiesIn 11 = .ok (.getfield 7, 3) := by decide +kernel
theorem dX8_magpiesIn_14 : decode cX8_magpiesIn 14 = .ok (.iload_n 2, 1) := by decide +kernel
theorem dX8_magpiesIn_15 : decode cX8_magpiesIn 15 = .ok (.iload_n 1, 1) := by decide +kernel
theorem dX8_magpiesIn_16 : decode cX8_magpiesIn 16 = .ok (.iload_n 2, 1) := by decide +kernel
theorem dX8_magpiesIn_17 : decode cX8_magpiesIn 17 = .ok (.ishr, 1) := by decide +kernel
theorem dX8_magpiesIn_18 : decode cX8_magpiesIn 18 = .ok (.iconst 1, 1) := by decide +kernel
theorem dX8_magpiesIn_19 : decode cX8_magpiesIn 19 = .ok (.iand, 1) := by decide +kernel
theorem dX8_magpiesIn_20 : decode cX8_magpiesIn 20 = .ok (.iconst 1, 1) := by decide +kernel
theorem dX8_magpiesIn_21 : decode cX8_magpiesIn 21 = .ok (.if_icmp .ne 7, 3) := by decide +kernel
theorem dX8_magpiesIn_24 : decode cX8_magpiesIn 24 = .ok (.iconst 1, 1) := by decide +kernel
theorem dX8_magpiesIn_25 : decode cX8_magpiesIn 25 = .ok (.goto 9, 3) := by decide +kernel
theorem dX8_magpiesIn_28 : decode cX8_magpiesIn 28 = .ok (.aload_n 0, 1) := by decide +kernel
theorem dX8_magpiesIn_29 : decode cX8_magpiesIn 29 = .ok (.getfield 7, 3) := by decide +kernel
theorem dX8_magpiesIn_32 : decode cX8_magpiesIn 32 = .ok (.iload_n 2, 1) := by decide +kernel
theorem dX8_magpiesIn_33 : decode cX8_magpiesIn 33 = .ok (.iaload, 1) := by decide +kernel
theorem dX8_magpiesIn_34 : decode cX8_magpiesIn 34 = .ok (.iastore, 1) := by decide +kernel
theorem dX8_magpiesIn_35 : decode cX8_magpiesIn 35 = .ok (.iinc 2 1, 3) := by decide +kernel
theorem dX8_magpiesIn_38 : decode cX8_magpiesIn 38 = .ok (.goto (-36), 3) := by decide +kernel
theorem dX8_magpiesIn_41 : decode cX8_magpiesIn 41 = .ok (.return_, 1) := by decide +kernel
theorem dX8_magpies_0 : decode cX8_magpies 0 = .ok (.iload_n 1, 1) := by decide +kernel
theorem dX8_magpies_1 : decode cX8_magpies 1 = .ok (.i2l, 1) := by decide +kernel
theorem dX8_magpies_2 : decode cX8_magpies 2 = .ok (.lconst 0, 1) := by decide +kernel
theorem dX8_magpies_3 : decode cX8_magpies 3 = .ok (.lconst 1, 1) := by decide +kernel
theorem dX8_magpies_4 : decode cX8_magpies 4 = .ok (.invokestatic 74, 3) := by decide +kernel
theorem dX8_magpies_7 : decode cX8_magpies 7 = .ok (.ifCond .ne 5, 3) := by decide +kernel
theorem dX8_magpies_10 : decode cX8_magpies 10 = .ok (.iconst (-1), 1) := by decide +kernel
theorem dX8_magpies_11 : decode cX8_magpies 11 = .ok (.ireturn, 1) := by decide +kernel
theorem dX8_magpies_12 : decode cX8_magpies 12 = .ok (.aload_n 0, 1) := by decide +kernel
theorem dX8_magpies_13 : decode cX8_magpies 13 = .ok (.invokevirtual 182, 3) := by decide +kernel
theorem dX8_magpies_16 : decode cX8_magpies 16 = .ok (.istore_n 2, 1) := by decide +kernel
theorem dX8_magpies_17 : decode cX8_magpies 17 = .ok (.bipush (-4), 2) := by decide +kernel
theorem dX8_magpies_19 : decode cX8_magpies 19 = .ok (.istore_n 3, 1) := by decide +kernel
theorem dX8_magpies_20 : decode cX8_magpies 20 = .ok (.aload_n 0, 1) := by decide +kernel
theorem dX8_magpies_21 : decode cX8_magpies 21 = .ok (.iconst 0, 1) := by decide +kernel
theorem dX8_magpies_22 : decode cX8_magpies 22 = .ok (.bipush 100, 2) := by decide +kernel
theorem dX8_magpies_24 : decode cX8_magpies 24 = .ok (.invokevirtual 255, 3) := by decide +kernel
theorem dX8_magpies_27 : decode cX8_magpies 27 = .ok (.iconst 0, 1) := by decide +kernel
theorem dX8_magpies_28 : decode cX8_magpies 28 = .ok (.istore 4, 2) := by decide +kernel
theorem dX8_magpies_30 : decode cX8_magpies 30 = .ok (.iload 4, 2) := by decide +kernel
theorem dX8_magpies_32 : decode cX8_magpies 32 = .ok (.iconst 1, 1) := by decide +kernel
theorem dX8_magpies_33 : decode cX8_magpies 33 = .ok (.aload_n 0, 1) := by decide +kernel
theorem dX8_magpies_34 : decode cX8_magpies 34 = .ok (.getfield 13, 3) := by decide +kernel
theorem dX8_magpies_37 : decode cX8_magpies 37 = .ok (.ishl, 1) := by decide +kernel
theorem dX8_magpies_38 : decode cX8_magpies 38 = .ok (.if_icmp .ge 70, 3) := by decide +kernel
theorem dX8_magpies_41 : decode cX8_magpies 41 = .ok (.iload 4, 2) := by decide +kernel
theorem dX8_magpies_43 : decode cX8_magpies 43 = .ok (.iload_n 2, 1) := by decide +kernel
theorem dX8_magpies_44 : decode cX8_magpies 44 = .ok (.iand, 1) := by decide +kernel
theorem dX8_magpies_45 : decode cX8_magpies 45 = .ok (.ifCond .ne 57, 3) := by decide +kernel
theorem dX8_magpies_48 : decode cX8_magpies 48 = .ok (.aload_n 0, 1) := by decide +kernel
theorem dX8_magpies_49 : decode cX8_magpies 49 = .ok (.iload 4, 2) := by decide +kernel
theorem dX8_magpies_51 : decode cX8_magpies 51 = .ok (.iload_n 3, 1) := by decide +kernel
theorem dX8_magpies_52 : decode cX8_magpies 52 = .ok (.invokevirtual 250, 3) := by decide +kernel
theorem dX8_magpies_55 : decode cX8_magpies 55 = .ok (.ifCond .eq 47, 3) := by decide +kernel
theorem dX8_magpies_58 : decode cX8_magpies 58 = .ok (.aload_n 0, 1) := by decide +kernel
theorem dX8_magpies_59 : decode cX8_magpies 59 = .ok (.iload 4, 2) := by decide +kernel
theorem dX8_magpies_61 : decode cX8_magpies 61 = .ok (.iload_n 2, 1) := by decide +kernel
theorem dX8_magpies_62 : decode cX8_magpies 62 = .ok (.ior, 1) := by decide +kernel
theorem dX8_magpies_63 : decode cX8_magpies 63 = .ok (.invokevirtual 258, 3) := by decide +kernel
theorem dX8_magpies_66 : decode cX8_magpies 66 = .ok (.ifCond .eq 36, 3) := by decide +kernel
theorem dX8_magpies_69 : decode cX8_magpies 69 = .ok (.aload_n 0, 1) := by decide +kernel
theorem dX8_magpies_70 : decode cX8_magpies 70 = .ok (.iload 4, 2) := by decide +kernel
theorem dX8_magpies_72 : decode cX8_magpies 72 = .ok (.invokevirtual 261, 3) := by decide +kernel
theorem dX8_magpies_75 : decode cX8_magpies 75 = .ok (.aload_n 0, 1) := by decide +kernel
theorem dX8_magpies_76 : decode cX8_magpies 76 = .ok (.invokevirtual 236, 3) := by decide +kernel
theorem dX8_magpies_79 : decode cX8_magpies 79 = .ok (.aload_n 0, 1) := by decide +kernel
theorem dX8_magpies_80 : decode cX8_magpies 80 = .ok (.getfield 223, 3) := by decide +kernel
theorem dX8_magpies_83 : decode cX8_magpies 83 = .ok (.bipush (-4), 2) := by decide +kernel
theorem dX8_magpies_85 : decode cX8_magpies 85 = .ok (.if_icmp .ne 8, 3) := by decide +kernel
theorem dX8_magpies_88 : decode cX8_magpies 88 = .ok (.iload 4, 2) := by decide +kernel
theorem dX8_magpies_90 : decode cX8_magpies 90 = .ok (.goto 4, 3) := by decide +kernel
theorem dX8_magpies_93 : decode cX8_magpies 93 = .ok (.iload_n 3, 1) := by decide +kernel
theorem dX8_magpies_94 : decode cX8_magpies 94 = .ok (.istore_n 3, 1) := by decide +kernel
theorem dX8_magpies_95 : decode cX8_magpies 95 = .ok (.aload_n 0, 1) := by decide +kernel
theorem dX8_magpies_96 : decode cX8_magpies 96 = .ok (.bipush 100, 2) := by decide +kernel
theorem dX8_magpies_98 : decode cX8_magpies 98 = .ok (.iconst 0, 1) := by decide +kernel
theorem dX8_magpies_99 : decode cX8_magpies 99 = .ok (.invokevirtual 255, 3) := by decide +kernel
theorem dX8_magpies_102 : decode cX8_magpies 102 = .ok (.iinc 4 1, 3) := by decide +kernel
theorem dX8_magpies_105 : decode cX8_magpies 105 = .ok (.goto (-75), 3) := by decide +kernel
theorem dX8_magpies_108 : decode cX8_magpies 108 = .ok (.iload_n 3, 1) := by decide +kernel
theorem dX8_magpies_109 : decode cX8_magpies 109 = .ok (.bipush (-4), 2) := by decide +kernel
theorem dX8_magpies_111 : decode cX8_magpies 111 = .ok (.if_icmp .eq 8, 3) := by decide +kernel
theorem dX8_magpies_114 : decode cX8_magpies 114 = .ok (.iload_n 1, 1) := by decide +kernel
theorem dX8_magpies_115 : decode cX8_magpies 115 = .ok (.iconst 1, 1) := by decide +kernel
theorem dX8_magpies_116 : decode cX8_magpies 116 = .ok (.if_icmp .ne 7, 3) := by decide +kernel
theorem dX8_magpies_119 : decode cX8_magpies 119 = .ok (.iload_n 3, 1) := by decide +kernel
theorem dX8_magpies_120 : decode cX8_magpies 120 = .ok (.goto 7, 3) := by decide +kernel
theorem dX8_magpies_123 : decode cX8_magpies 123 = .ok (.iload_n 3, 1) := by decide +kernel
theorem dX8_magpies_124 : decode cX8_magpies 124 = .ok (.invokestatic 247, 3) := by decide +kernel
theorem dX8_magpies_127 : decode cX8_magpies 127 = .ok (.ireturn, 1) := by decide +kernel
theorem dX8_laysStarts_0 : decode cX8_laysStarts 0 = .ok (.iload_n 1, 1) := by decide +kernel
theorem dX8_laysStarts_1 : decode cX8_laysStarts 1 = .ok (.istore_n 2, 1) := by decide +kernel
theorem dX8_laysStarts_2 : decode cX8_laysStarts 2 = .ok (.aload_n 0, 1) := by decide +kernel
theorem dX8_laysStarts_3 : decode cX8_laysStarts 3 = .ok (.getfield 173, 3) := by decide +kernel
theorem dX8_laysStarts_6 : decode cX8_laysStarts 6 = .ok (.iconst 1, 1) := by decide +kernel
theorem dX8_laysStarts_7 : decode cX8_laysStarts 7 = .ok (.isub, 1) := by decide +kernel
theorem dX8_laysStarts_8 : decode cX8_laysStarts 8 = .ok (.istore_n 3, 1) := by decide +kernel
theorem dX8_laysStarts_9 : decode cX8_laysStarts 9 = .ok (.iload_n 3, 1) := by decide +kernel
theorem dX8_laysStarts_10 : decode cX8_laysStarts 10 = .ok (.ifCond .lt 25, 3) := by decide +kernel
theorem dX8_laysStarts_13 : decode cX8_laysStarts 13 = .ok (.aload_n 0, 1) := by decide +kernel
theorem dX8_laysStarts_14 : decode cX8_laysStarts 14 = .ok (.getfield 7, 3) := by decide +kernel
theorem dX8_laysStarts_17 : decode cX8_laysStarts 17 = .ok (.bipush 17, 2) := by decide +kernel
theorem dX8_laysStarts_19 : decode cX8_laysStarts 19 = .ok (.iload_n 3, 1) := by decide +kernel
theorem dX8_laysStarts_20 : decode cX8_laysStarts 20 = .ok (.iadd, 1) := by decide +kernel
theorem dX8_laysStarts_21 : decode cX8_laysStarts 21 = .ok (.iload_n 2, 1) := by decide +kernel
theorem dX8_laysStarts_22 : decode cX8_laysStarts 22 = .ok (.iconst 4, 1) := by decide +kernel
theorem dX8_laysStarts_23 : decode cX8_laysStarts 23 = .ok (.irem, 1) := by decide +kernel
theorem dX8_laysStarts_24 : decode cX8_laysStarts 24 = .ok (.iastore, 1) := by decide +kernel
theorem dX8_laysStarts_25 : decode cX8_laysStarts 25 = .ok (.iload_n 2, 1) := by decide +kernel
theorem dX8_laysStarts_26 : decode cX8_laysStarts 26 = .ok (.iconst 4, 1) := by decide +kernel
theorem dX8_laysStarts_27 : decode cX8_laysStarts 27 = .ok (.idiv, 1) := by decide +kernel
theorem dX8_laysStarts_28 : decode cX8_laysStarts 28 = .ok (.istore_n 2, 1) := by decide +kernel
theorem dX8_laysStarts_29 : decode cX8_laysStarts 29 = .ok (.iinc 3 (-1), 3) := by decide +kernel
theorem dX8_laysStarts_32 : decode cX8_laysStarts 32 = .ok (.goto (-23), 3) := by decide +kernel
theorem dX8_laysStarts_35 : decode cX8_laysStarts 35 = .ok (.return_, 1) := by decide +kernel
theorem dX8_starts_0 : decode cX8_starts 0 = .ok (.iload_n 1, 1) := by decide +kernel
theorem dX8_starts_1 : decode cX8_starts 1 = .ok (.ifCond .eq 24, 3) := by decide +kernel
theorem dX8_starts_4 : decode cX8_starts 4 = .ok (.iload_n 1, 1) := by decide +kernel
theorem dX8_starts_5 : decode cX8_starts 5 = .ok (.i2l, 1) := by decide +kernel
theorem dX8_starts_6 : decode cX8_starts 6 = .ok (.ldc2_w 150, 3) := by decide +kernel
theorem dX8_starts_9 : decode cX8_starts 9 = .ok (.bipush 9, 2) := by decide +kernel
theorem dX8_starts_11 : decode cX8_starts 11 = .ok (.aload_n 0, 1) := by decide +kernel
theorem dX8_starts_12 : decode cX8_starts 12 = .ok (.getfield 173, 3) := by decide +kernel
theorem dX8_starts_15 : decode cX8_starts 15 = .ok (.iadd, 1) := by decide +kernel
theorem dX8_starts_16 : decode cX8_starts 16 = .ok (.i2l, 1) := by decide +kernel
theorem dX8_starts_17 : decode cX8_starts 17 = .ok (.invokestatic 74, 3) := by decide +kernel
theorem dX8_starts_20 : decode cX8_starts 20 = .ok (.ifCond .ne 5, 3) := by decide +kernel
theorem dX8_starts_23 : decode cX8_starts 23 = .ok (.iconst (-1), 1) := by decide +kernel
theorem dX8_starts_24 : decode cX8_starts 24 = .ok (.ireturn, 1) := by decide +kernel
theorem dX8_starts_25 : decode cX8_starts 25 = .ok (.bipush (-4), 2) := by decide +kernel
theorem dX8_starts_27 : decode cX8_starts 27 = .ok (.istore_n 2, 1) := by decide +kernel
theorem dX8_starts_28 : decode cX8_starts 28 = .ok (.ldc 254, 2) := by decide +kernel
theorem dX8_starts_30 : decode cX8_starts 30 = .ok (.istore_n 3, 1) := by decide +kernel
theorem dX8_starts_31 : decode cX8_starts 31 = .ok (.aload_n 0, 1) := by decide +kernel
theorem dX8_starts_32 : decode cX8_starts 32 = .ok (.iconst 0, 1) := by decide +kernel
theorem dX8_starts_33 : decode cX8_starts 33 = .ok (.bipush 100, 2) := by decide +kernel
theorem dX8_starts_35 : decode cX8_starts 35 = .ok (.invokevirtual 255, 3) := by decide +kernel
theorem dX8_starts_38 : decode cX8_starts 38 = .ok (.iconst 0, 1) := by decide +kernel
theorem dX8_starts_39 : decode cX8_starts 39 = .ok (.istore 4, 2) := by decide +kernel
theorem dX8_starts_41 : decode cX8_starts 41 = .ok (.iload 4, 2) := by decide +kernel
theorem dX8_starts_43 : decode cX8_starts 43 = .ok (.iconst 1, 1) := by decide +kernel
theorem dX8_starts_44 : decode cX8_starts 44 = .ok (.iconst 2, 1) := by decide +kernel
theorem dX8_starts_45 : decode cX8_starts 45 = .ok (.aload_n 0, 1) := by decide +kernel
theorem dX8_starts_46 : decode cX8_starts 46 = .ok (.getfield 173, 3) := by decide +kernel
theorem dX8_starts_49 : decode cX8_starts 49 = .ok (.imul, 1) := by decide +kernel
theorem dX8_starts_50 : decode cX8_starts 50 = .ok (.ishl, 1) := by decide +kernel
theorem dX8_starts_51 : decode cX8_starts 51 = .ok (.if_icmp .ge 71, 3) := by decide +kernel
theorem dX8_starts_54 : decode cX8_starts 54 = .ok (.aload_n 0, 1) := by decide +kernel
theorem dX8_starts_55 : decode cX8_starts 55 = .ok (.iload 4, 2) := by decide +kernel
theorem dX8_starts_57 : decode cX8_starts 57 = .ok (.invokevirtual 264, 3) := by decide +kernel
theorem dX8_starts_60 : decode cX8_starts 60 = .ok (.aload_n 0, 1) := by decide +kernel
theorem dX8_starts_61 : decode cX8_starts 61 = .ok (.invokevirtual 236, 3) := by decide +kernel
theorem dX8_starts_64 : decode cX8_starts 64 = .ok (.aload_n 0, 1) := by decide +kernel
theorem dX8_starts_65 : decode cX8_starts 65 = .ok (.invokevirtual 244, 3) := by decide +kernel
theorem dX8_starts_68 : decode cX8_starts 68 = .ok (.aload_n 0, 1) := by decide +kernel
theorem dX8_starts_69 : decode cX8_starts 69 = .ok (.getfield 173, 3) := by decide +kernel
theorem dX8_starts_72 : decode cX8_starts 72 = .ok (.if_icmp .ne 15, 3) := by decide +kernel
theorem dX8_starts_75 : decode cX8_starts 75 = .ok (.aload_n 0, 1) := by decide +kernel
theorem dX8_starts_76 : decode cX8_starts 76 = .ok (.invokevirtual 241, 3) := by decide +kernel
theorem dX8_starts_79 : decode cX8_starts 79 = .ok (.iload_n 3, 1) := by decide +kernel
theorem dX8_starts_80 : decode cX8_starts 80 = .ok (.if_icmp .ge 7, 3) := by decide +kernel
theorem dX8_starts_83 : decode cX8_starts 83 = .ok (.iconst 1, 1) := by decide +kernel
theorem dX8_starts_84 : decode cX8_starts 84 = .ok (.goto 4, 3) := by decide +kernel
theorem dX8_starts_87 : decode cX8_starts 87 = .ok (.iconst 0, 1) := by decide +kernel
theorem dX8_starts_88 : decode cX8_starts 88 = .ok (.istore 5, 2) := by decide +kernel
theorem dX8_starts_90 : decode cX8_starts 90 = .ok (.iload 5, 2) := by decide +kernel
theorem dX8_starts_92 : decode cX8_starts 92 = .ok (.ifCond .eq 8, 3) := by decide +kernel
theorem dX8_starts_95 : decode cX8_starts 95 = .ok (.iload 4, 2) := by decide +kernel
theorem dX8_starts_97 : decode cX8_starts 97 = .ok (.goto 4, 3) := by decide +kernel
theorem dX8_starts_100 : decode cX8_starts 100 = .ok (.iload_n 2, 1) := by decide +kernel
theorem dX8_starts_101 : decode cX8_starts 101 = .ok (.istore_n 2, 1) := by decide +kernel
theorem dX8_starts_102 : decode cX8_starts 102 = .ok (.iload 5, 2) := by decide +kernel
theorem dX8_starts_104 : decode cX8_starts 104 = .ok (.ifCond .eq 10, 3) := by decide +kernel
theorem dX8_starts_107 : decode cX8_starts 107 = .ok (.aload_n 0, 1) := by decide +kernel
theorem dX8_starts_108 : decode cX8_starts 108 = .ok (.invokevirtual 241, 3) := by decide +kernel
theorem dX8_starts_111 : decode cX8_starts 111 = .ok (.goto 4, 3) := by decide +kernel
theorem dX8_starts_114 : decode cX8_starts 114 = .ok (.iload_n 3, 1) := by decide +kernel
theorem dX8_starts_115 : decode cX8_starts 115 = .ok (.istore_n 3, 1) := by decide +kernel
theorem dX8_starts_116 : decode cX8_starts 116 = .ok (.iinc 4 1, 3) := by decide +kernel
theorem dX8_starts_119 : decode cX8_starts 119 = .ok (.goto (-78), 3) := by decide +kernel
theorem dX8_starts_122 : decode cX8_starts 122 = .ok (.aload_n 0, 1) := by decide +kernel
theorem dX8_starts_123 : decode cX8_starts 123 = .ok (.iload_n 2, 1) := by decide +kernel
theorem dX8_starts_124 : decode cX8_starts 124 = .ok (.bipush (-4), 2) := by decide +kernel
theorem dX8_starts_126 : decode cX8_starts 126 = .ok (.if_icmp .ne 7, 3) := by decide +kernel
theorem dX8_starts_129 : decode cX8_starts 129 = .ok (.iconst 0, 1) := by decide +kernel
theorem dX8_starts_130 : decode cX8_starts 130 = .ok (.goto 4, 3) := by decide +kernel
theorem dX8_starts_133 : decode cX8_starts 133 = .ok (.iload_n 2, 1) := by decide +kernel
theorem dX8_starts_134 : decode cX8_starts 134 = .ok (.invokevirtual 264, 3) := by decide +kernel
theorem dX8_starts_137 : decode cX8_starts 137 = .ok (.iload_n 2, 1) := by decide +kernel
theorem dX8_starts_138 : decode cX8_starts 138 = .ok (.bipush (-4), 2) := by decide +kernel
theorem dX8_starts_140 : decode cX8_starts 140 = .ok (.if_icmp .ne 8, 3) := by decide +kernel
theorem dX8_starts_143 : decode cX8_starts 143 = .ok (.bipush (-4), 2) := by decide +kernel
theorem dX8_starts_145 : decode cX8_starts 145 = .ok (.goto 23, 3) := by decide +kernel
theorem dX8_starts_148 : decode cX8_starts 148 = .ok (.iload_n 1, 1) := by decide +kernel
theorem dX8_starts_149 : decode cX8_starts 149 = .ok (.ifCond .ne 7, 3) := by decide +kernel
theorem dX8_starts_152 : decode cX8_starts 152 = .ok (.iload_n 3, 1) := by decide +kernel
theorem dX8_starts_153 : decode cX8_starts 153 = .ok (.goto 15, 3) := by decide +kernel
theorem dX8_starts_156 : decode cX8_starts 156 = .ok (.aload_n 0, 1) := by decide +kernel
theorem dX8_starts_157 : decode cX8_starts 157 = .ok (.getfield 7, 3) := by decide +kernel
theorem dX8_starts_160 : decode cX8_starts 160 = .ok (.bipush 17, 2) := by decide +kernel
theorem dX8_starts_162 : decode cX8_starts 162 = .ok (.iload_n 1, 1) := by decide +kernel
theorem dX8_starts_163 : decode cX8_starts 163 = .ok (.iadd, 1) := by decide +kernel
theorem dX8_starts_164 : decode cX8_starts 164 = .ok (.bipush 10, 2) := by decide +kernel
theorem dX8_starts_166 : decode cX8_starts 166 = .ok (.isub, 1) := by decide +kernel
theorem dX8_starts_167 : decode cX8_starts 167 = .ok (.iaload, 1) := by decide +kernel
theorem dX8_starts_168 : decode cX8_starts 168 = .ok (.istore 4, 2) := by decide +kernel
theorem dX8_starts_170 : decode cX8_starts 170 = .ok (.aload_n 0, 1) := by decide +kernel
theorem dX8_starts_171 : decode cX8_starts 171 = .ok (.bipush 100, 2) := by decide +kernel
theorem dX8_starts_173 : decode cX8_starts 173 = .ok (.iconst 0, 1) := by decide +kernel
theorem dX8_starts_174 : decode cX8_starts 174 = .ok (.invokevirtual 255, 3) := by decide +kernel
theorem dX8_starts_177 : decode cX8_starts 177 = .ok (.iload 4, 2) := by decide +kernel
theorem dX8_starts_179 : decode cX8_starts 179 = .ok (.ireturn, 1) := by decide +kernel
theorem dX8_allowed_0 : decode cX8_allowed 0 = .ok (.iload_n 1, 1) := by decide +kernel
theorem dX8_allowed_1 : decode cX8_allowed 1 = .ok (.i2l, 1) := by decide +kernel
theorem dX8_allowed_2 : decode cX8_allowed 2 = .ok (.lconst 0, 1) := by decide +kernel
theorem dX8_allowed_3 : decode cX8_allowed 3 = .ok (.lconst 1, 1) := by decide +kernel
theorem dX8_allowed_4 : decode cX8_allowed 4 = .ok (.invokestatic 74, 3) := by decide +kernel
theorem dX8_allowed_7 : decode cX8_allowed 7 = .ok (.ifCond .ne 5, 3) := by decide +kernel
theorem dX8_allowed_10 : decode cX8_allowed 10 = .ok (.iconst (-1), 1) := by decide +kernel
theorem dX8_allowed_11 : decode cX8_allowed 11 = .ok (.ireturn, 1) := by decide +kernel
theorem dX8_allowed_12 : decode cX8_allowed 12 = .ok (.iconst 0, 1) := by decide +kernel
theorem dX8_allowed_13 : decode cX8_allowed 13 = .ok (.istore_n 2, 1) := by decide +kernel
theorem dX8_allowed_14 : decode cX8_allowed 14 = .ok (.iconst 0, 1) := by decide +kernel
theorem dX8_allowed_15 : decode cX8_allowed 15 = .ok (.istore_n 3, 1) := by decide +kernel
theorem dX8_allowed_16 : decode cX8_allowed 16 = .ok (.iconst 0, 1) := by decide +kernel
theorem dX8_allowed_17 : decode cX8_allowed 17 = .ok (.istore 4, 2) := by decide +kernel
theorem dX8_allowed_19 : decode cX8_allowed 19 = .ok (.iload 4, 2) := by decide +kernel
theorem dX8_allowed_21 : decode cX8_allowed 21 = .ok (.iconst 1, 1) := by decide +kernel
theorem dX8_allowed_22 : decode cX8_allowed 22 = .ok (.aload_n 0, 1) := by decide +kernel
theorem dX8_allowed_23 : decode cX8_allowed 23 = .ok (.getfield 13, 3) := by decide +kernel
theorem dX8_allowed_26 : decode cX8_allowed 26 = .ok (.ishl, 1) := by decide +kernel
theorem dX8_allowed_27 : decode cX8_allowed 27 = .ok (.if_icmp .ge 54, 3) := by decide +kernel
theorem dX8_allowed_30 : decode cX8_allowed 30 = .ok (.aload_n 0, 1) := by decide +kernel
theorem dX8_allowed_31 : decode cX8_allowed 31 = .ok (.iload 4, 2) := by decide +kernel
theorem dX8_allowed_33 : decode cX8_allowed 33 = .ok (.invokevirtual 258, 3) := by decide +kernel
theorem dX8_allowed_36 : decode cX8_allowed 36 = .ok (.istore 5, 2) := by decide +kernel
theorem dX8_allowed_38 : decode cX8_allowed 38 = .ok (.iload_n 2, 1) := by decide +kernel
theorem dX8_allowed_39 : decode cX8_allowed 39 = .ok (.iload 5, 2) := by decide +kernel
theorem dX8_allowed_41 : decode cX8_allowed 41 = .ok (.ifCond .eq 7, 3) := by decide +kernel
theorem dX8_allowed_44 : decode cX8_allowed 44 = .ok (.iconst 1, 1) := by decide +kernel
theorem dX8_allowed_45 : decode cX8_allowed 45 = .ok (.goto 4, 3) := by decide +kernel
theorem dX8_allowed_48 : decode cX8_allowed 48 = .ok (.iconst 0, 1) := by decide +kernel
theorem dX8_allowed_49 : decode cX8_allowed 49 = .ok (.iadd, 1) := by decide +kernel
theorem dX8_allowed_50 : decode cX8_allowed 50 = .ok (.istore_n 2, 1) := by decide +kernel
theorem dX8_allowed_51 : decode cX8_allowed 51 = .ok (.iload 5, 2) := by decide +kernel
theorem dX8_allowed_53 : decode cX8_allowed 53 = .ok (.ifCond .eq 20, 3) := by decide +kernel
theorem dX8_allowed_56 : decode cX8_allowed 56 = .ok (.iload 4, 2) := by decide +kernel
theorem dX8_allowed_58 : decode cX8_allowed 58 = .ok (.invokestatic 247, 3) := by decide +kernel
theorem dX8_allowed_61 : decode cX8_allowed 61 = .ok (.iload_n 3, 1) := by decide +kernel
theorem dX8_allowed_62 : decode cX8_allowed 62 = .ok (.if_icmp .le 11, 3) := by decide +kernel
theorem dX8_allowed_65 : decode cX8_allowed 65 = .ok (.iload 4, 2) := by decide +kernel
theorem dX8_allowed_67 : decode cX8_allowed 67 = .ok (.invokestatic 247, 3) := by decide +kernel
theorem dX8_allowed_70 : decode cX8_allowed 70 = .ok (.goto 4, 3) := by decide +kernel
theorem dX8_allowed_73 : decode cX8_allowed 73 = .ok (.iload_n 3, 1) := by decide +kernel
theorem dX8_allowed_74 : decode cX8_allowed 74 = .ok (.istore_n 3, 1) := by decide +kernel
theorem dX8_allowed_75 : decode cX8_allowed 75 = .ok (.iinc 4 1, 3) := by decide +kernel
theorem dX8_allowed_78 : decode cX8_allowed 78 = .ok (.goto (-59), 3) := by decide +kernel
theorem dX8_allowed_81 : decode cX8_allowed 81 = .ok (.iload_n 1, 1) := by decide +kernel
theorem dX8_allowed_82 : decode cX8_allowed 82 = .ok (.ifCond .ne 7, 3) := by decide +kernel
theorem dX8_allowed_85 : decode cX8_allowed 85 = .ok (.iload_n 2, 1) := by decide +kernel
theorem dX8_allowed_86 : decode cX8_allowed 86 = .ok (.goto 4, 3) := by decide +kernel
theorem dX8_allowed_89 : decode cX8_allowed 89 = .ok (.iload_n 3, 1) := by decide +kernel
theorem dX8_allowed_90 : decode cX8_allowed 90 = .ok (.ireturn, 1) := by decide +kernel
theorem dX8_convert_0 : decode cX8_convert 0 = .ok (.iload_n 1, 1) := by decide +kernel
theorem dX8_convert_1 : decode cX8_convert 1 = .ok (.i2l, 1) := by decide +kernel
theorem dX8_convert_2 : decode cX8_convert 2 = .ok (.lconst 0, 1) := by decide +kernel
theorem dX8_convert_3 : decode cX8_convert 3 = .ok (.lconst 1, 1) := by decide +kernel
theorem dX8_convert_4 : decode cX8_convert 4 = .ok (.invokestatic 74, 3) := by decide +kernel
theorem dX8_convert_7 : decode cX8_convert 7 = .ok (.ifCond .ne 5, 3) := by decide +kernel
theorem dX8_convert_10 : decode cX8_convert 10 = .ok (.iconst (-1), 1) := by decide +kernel
theorem dX8_convert_11 : decode cX8_convert 11 = .ok (.ireturn, 1) := by decide +kernel
theorem dX8_convert_12 : decode cX8_convert 12 = .ok (.aload_n 0, 1) := by decide +kernel
theorem dX8_convert_13 : decode cX8_convert 13 = .ok (.invokevirtual 236, 3) := by decide +kernel
theorem dX8_convert_16 : decode cX8_convert 16 = .ok (.aload_n 0, 1) := by decide +kernel
theorem dX8_convert_17 : decode cX8_convert 17 = .ok (.invokevirtual 241, 3) := by decide +kernel
theorem dX8_convert_20 : decode cX8_convert 20 = .ok (.istore_n 2, 1) := by decide +kernel
theorem dX8_convert_21 : decode cX8_convert 21 = .ok (.bipush (-4), 2) := by decide +kernel
theorem dX8_convert_23 : decode cX8_convert 23 = .ok (.istore_n 3, 1) := by decide +kernel
theorem dX8_convert_24 : decode cX8_convert 24 = .ok (.iconst 0, 1) := by decide +kernel
theorem dX8_convert_25 : decode cX8_convert 25 = .ok (.istore 4, 2) := by decide +kernel
theorem dX8_convert_27 : decode cX8_convert 27 = .ok (.iload 4, 2) := by decide +kernel
theorem dX8_convert_29 : decode cX8_convert 29 = .ok (.aload_n 0, 1) := by decide +kernel
theorem dX8_convert_30 : decode cX8_convert 30 = .ok (.getfield 173, 3) := by decide +kernel
theorem dX8_convert_33 : decode cX8_convert 33 = .ok (.if_icmp .ge 102, 3) := by decide +kernel
theorem dX8_convert_36 : decode cX8_convert 36 = .ok (.aload_n 0, 1) := by decide +kernel
theorem dX8_convert_37 : decode cX8_convert 37 = .ok (.getfield 7, 3) := by decide +kernel
theorem dX8_convert_40 : decode cX8_convert 40 = .ok (.bipush 9, 2) := by decide +kernel
theorem dX8_convert_42 : decode cX8_convert 42 = .ok (.iload 4, 2) := by decide +kernel
theorem dX8_convert_44 : decode cX8_convert 44 = .ok (.iadd, 1) := by decide +kernel
theorem dX8_convert_45 : decode cX8_convert 45 = .ok (.iaload, 1) := by decide +kernel
theorem dX8_convert_46 : decode cX8_convert 46 = .ok (.istore 5, 2) := by decide +kernel
theorem dX8_convert_48 : decode cX8_convert 48 = .ok (.iconst 0, 1) := by decide +kernel
theorem dX8_convert_49 : decode cX8_convert 49 = .ok (.istore 6, 2) := by decide +kernel
theorem dX8_convert_51 : decode cX8_convert 51 = .ok (.iload 6, 2) := by decide +kernel
theorem dX8_convert_53 : decode cX8_convert 53 = .ok (.iconst 4, 1) := by decide +kernel
theorem dX8_convert_54 : decode cX8_convert 54 = .ok (.if_icmp .ge 63, 3) := by decide +kernel
theorem dX8_convert_57 : decode cX8_convert 57 = .ok (.aload_n 0, 1) := by decide +kernel
theorem dX8_convert_58 : decode cX8_convert 58 = .ok (.getfield 7, 3) := by decide +kernel
theorem dX8_convert_61 : decode cX8_convert 61 = .ok (.bipush 9, 2) := by decide +kernel
theorem dX8_convert_63 : decode cX8_convert 63 = .ok (.iload 4, 2) := by decide +kernel
theorem dX8_convert_65 : decode cX8_convert 65 = .ok (.iadd, 1) := by decide +kernel
theorem dX8_convert_66 : decode cX8_convert 66 = .ok (.iload 6, 2) := by decide +kernel
theorem dX8_convert_68 : decode cX8_convert 68 = .ok (.iastore, 1) := by decide +kernel
theorem dX8_convert_69 : decode cX8_convert 69 = .ok (.aload_n 0, 1) := by decide +kernel
theorem dX8_convert_70 : decode cX8_convert 70 = .ok (.invokevirtual 236, 3) := by decide +kernel
theorem dX8_convert_73 : decode cX8_convert 73 = .ok (.aload_n 0, 1) := by decide +kernel
theorem dX8_convert_74 : decode cX8_convert 74 = .ok (.invokevirtual 241, 3) := by decide +kernel
theorem dX8_convert_77 : decode cX8_convert 77 = .ok (.iload_n 2, 1) := by decide +kernel
theorem dX8_convert_78 : decode cX8_convert 78 = .ok (.if_icmp .ge 14, 3) := by decide +kernel
theorem dX8_convert_81 : decode cX8_convert 81 = .ok (.bipush 10, 2) := by decide +kernel
theorem dX8_convert_83 : decode cX8_convert 83 = .ok (.iload 4, 2) := by decide +kernel
theorem dX8_convert_85 : decode cX8_convert 85 = .ok (.imul, 1) := by decide +kernel
theorem dX8_convert_86 : decode cX8_convert 86 = .ok (.iload 6, 2) := by decide +kernel
theorem dX8_convert_88 : decode cX8_convert 88 = .ok (.iadd, 1) := by decide +kernel
theorem dX8_convert_89 : decode cX8_convert 89 = .ok (.goto 4, 3) := by decide +kernel
theorem dX8_convert_92 : decode cX8_convert 92 = .ok (.iload_n 3, 1) := by decide +kernel
theorem dX8_convert_93 : decode cX8_convert 93 = .ok (.istore_n 3, 1) := by decide +kernel
theorem dX8_convert_94 : decode cX8_convert 94 = .ok (.aload_n 0, 1) := by decide +kernel
theorem dX8_convert_95 : decode cX8_convert 95 = .ok (.invokevirtual 241, 3) := by decide +kernel
theorem dX8_convert_98 : decode cX8_convert 98 = .ok (.iload_n 2, 1) := by decide +kernel
theorem dX8_convert_99 : decode cX8_convert 99 = .ok (.if_icmp .ge 10, 3) := by decide +kernel
theorem dX8_convert_102 : decode cX8_convert 102 = .ok (.aload_n 0, 1) := by decide +kernel
theorem dX8_convert_103 : decode cX8_convert 103 = .ok (.invokevirtual 241, 3) := by decide +kernel
theorem dX8_convert_106 : decode cX8_convert 106 = .ok (.goto 4, 3) := by decide +kernel
theorem dX8_convert_109 : decode cX8_convert 109 = .ok (.iload_n 2, 1) := by decide +kernel
theorem dX8_convert_110 : decode cX8_convert 110 = .ok (.istore_n 2, 1) := by decide +kernel
theorem dX8_convert_111 : decode cX8_convert 111 = .ok (.iinc 6 1, 3) := by decide +kernel
theorem dX8_convert_114 : decode cX8_convert 114 = .ok (.goto (-63), 3) := by decide +kernel
theorem dX8_convert_117 : decode cX8_convert 117 = .ok (.aload_n 0, 1) := by decide +kernel
theorem dX8_convert_118 : decode cX8_convert 118 = .ok (.getfield 7, 3) := by decide +kernel
theorem dX8_convert_121 : decode cX8_convert 121 = .ok (.bipush 9, 2) := by decide +kernel
theorem dX8_convert_123 : decode cX8_convert 123 = .ok (.iload 4, 2) := by decide +kernel
theorem dX8_convert_125 : decode cX8_convert 125 = .ok (.iadd, 1) := by decide +kernel
theorem dX8_convert_126 : decode cX8_convert 126 = .ok (.iload 5, 2) := by decide +kernel
theorem dX8_convert_128 : decode cX8_convert 128 = .ok (.iastore, 1) := by decide +kernel
theorem dX8_convert_129 : decode cX8_convert 129 = .ok (.iinc 4 1, 3) := by decide +kernel
theorem dX8_convert_132 : decode cX8_convert 132 = .ok (.goto (-105), 3) := by decide +kernel
theorem dX8_convert_135 : decode cX8_convert 135 = .ok (.iload_n 3, 1) := by decide +kernel
theorem dX8_convert_136 : decode cX8_convert 136 = .ok (.bipush (-4), 2) := by decide +kernel
theorem dX8_convert_138 : decode cX8_convert 138 = .ok (.if_icmp .eq 7, 3) := by decide +kernel
theorem dX8_convert_141 : decode cX8_convert 141 = .ok (.iload_n 1, 1) := by decide +kernel
theorem dX8_convert_142 : decode cX8_convert 142 = .ok (.ifCond .ne 7, 3) := by decide +kernel
theorem dX8_convert_145 : decode cX8_convert 145 = .ok (.iload_n 3, 1) := by decide +kernel
theorem dX8_convert_146 : decode cX8_convert 146 = .ok (.goto 4, 3) := by decide +kernel
theorem dX8_convert_149 : decode cX8_convert 149 = .ok (.iload_n 2, 1) := by decide +kernel
theorem dX8_convert_150 : decode cX8_convert 150 = .ok (.ireturn, 1) := by decide +kernel
theorem dX8_lowest_0 : decode cX8_lowest 0 = .ok (.lload_n 0, 1) := by decide +kernel
theorem dX8_lowest_1 : decode cX8_lowest 1 = .ok (.lstore 5, 2) := by decide +kernel
theorem dX8_lowest_3 : decode cX8_lowest 3 = .ok (.lload_n 2, 1) := by decide +kernel
theorem dX8_lowest_4 : decode cX8_lowest 4 = .ok (.lstore 7, 2) := by decide +kernel
theorem dX8_lowest_6 : decode cX8_lowest 6 = .ok (.lload 7, 2) := by decide +kernel
theorem dX8_lowest_8 : decode cX8_lowest 8 = .ok (.lconst 0, 1) := by decide +kernel
theorem dX8_lowest_9 : decode cX8_lowest 9 = .ok (.lcmp, 1) := by decide +kernel
theorem dX8_lowest_10 : decode cX8_lowest 10 = .ok (.ifCond .eq 21, 3) := by decide +kernel
theorem dX8_lowest_13 : decode cX8_lowest 13 = .ok (.lload 5, 2) := by decide +kernel
theorem dX8_lowest_15 : decode cX8_lowest 15 = .ok (.lload 7, 2) := by decide +kernel
theorem dX8_lowest_17 : decode cX8_lowest 17 = .ok (.lrem, 1) := by decide +kernel
theorem dX8_lowest_18 : decode cX8_lowest 18 = .ok (.lstore 9, 2) := by decide +kernel
theorem dX8_lowest_20 : decode cX8_lowest 20 = .ok (.lload 7, 2) := by decide +kernel
theorem dX8_lowest_22 : decode cX8_lowest 22 = .ok (.lstore 5, 2) := by decide +kernel
theorem dX8_lowest_24 : decode cX8_lowest 24 = .ok (.lload 9, 2) := by decide +kernel
theorem dX8_lowest_26 : decode cX8_lowest 26 = .ok (.lstore 7, 2) := by decide +kernel
theorem dX8_lowest_28 : decode cX8_lowest 28 = .ok (.goto (-22), 3) := by decide +kernel
theorem dX8_lowest_31 : decode cX8_lowest 31 = .ok (.iload 4, 2) := by decide +kernel
theorem dX8_lowest_33 : decode cX8_lowest 33 = .ok (.ifCond .ne 7, 3) := by decide +kernel
theorem dX8_lowest_36 : decode cX8_lowest 36 = .ok (.lload_n 0, 1) := by decide +kernel
theorem dX8_lowest_37 : decode cX8_lowest 37 = .ok (.goto 4, 3) := by decide +kernel
theorem dX8_lowest_40 : decode cX8_lowest 40 = .ok (.lload_n 2, 1) := by decide +kernel
theorem dX8_lowest_41 : decode cX8_lowest 41 = .ok (.lload 5, 2) := by decide +kernel
theorem dX8_lowest_43 : decode cX8_lowest 43 = .ok (.ldiv, 1) := by decide +kernel
theorem dX8_lowest_44 : decode cX8_lowest 44 = .ok (.lreturn, 1) := by decide +kernel
theorem dX8_byMagpies_0 : decode cX8_byMagpies 0 = .ok (.aload_n 0, 1) := by decide +kernel
theorem dX8_byMagpies_1 : decode cX8_byMagpies 1 = .ok (.invokevirtual 182, 3) := by decide +kernel
theorem dX8_byMagpies_4 : decode cX8_byMagpies 4 = .ok (.istore 4, 2) := by decide +kernel
theorem dX8_byMagpies_6 : decode cX8_byMagpies 6 = .ok (.lconst 0, 1) := by decide +kernel
theorem dX8_byMagpies_7 : decode cX8_byMagpies 7 = .ok (.lstore 5, 2) := by decide +kernel
theorem dX8_byMagpies_9 : decode cX8_byMagpies 9 = .ok (.lconst 1, 1) := by decide +kernel
theorem dX8_byMagpies_10 : decode cX8_byMagpies 10 = .ok (.lstore 7, 2) := by decide +kernel
theorem dX8_byMagpies_12 : decode cX8_byMagpies 12 = .ok (.iconst 0, 1) := by decide +kernel
theorem dX8_byMagpies_13 : decode cX8_byMagpies 13 = .ok (.istore 9, 2) := by decide +kernel
theorem dX8_byMagpies_15 : decode cX8_byMagpies 15 = .ok (.iload 9, 2) := by decide +kernel
theorem dX8_byMagpies_17 : decode cX8_byMagpies 17 = .ok (.aload_n 0, 1) := by decide +kernel
theorem dX8_byMagpies_18 : decode cX8_byMagpies 18 = .ok (.getfield 13, 3) := by decide +kernel
theorem dX8_byMagpies_21 : decode cX8_byMagpies 21 = .ok (.if_icmp .ge 31, 3) := by decide +kernel
theorem dX8_byMagpies_24 : decode cX8_byMagpies 24 = .ok (.lload 7, 2) := by decide +kernel
theorem dX8_byMagpies_26 : decode cX8_byMagpies 26 = .ok (.iload 4, 2) := by decide +kernel
theorem dX8_byMagpies_28 : decode cX8_byMagpies 28 = .ok (.iload 9, 2) := by decide +kernel
theorem dX8_byMagpies_30 : decode cX8_byMagpies 30 = .ok (.ishr, 1) := by decide +kernel
theorem dX8_byMagpies_31 : decode cX8_byMagpies 31 = .ok (.iconst 1, 1) := by decide +kernel
theorem dX8_byMagpies_32 : decode cX8_byMagpies 32 = .ok (.iand, 1) := by decide +kernel
theorem dX8_byMagpies_33 : decode cX8_byMagpies 33 = .ok (.ifCond .ne 9, 3) := by decide +kernel
theorem dX8_byMagpies_36 : decode cX8_byMagpies 36 = .ok (.ldc2_w 150, 3) := by decide +kernel
theorem dX8_byMagpies_39 : decode cX8_byMagpies 39 = .ok (.goto 4, 3) := by decide +kernel
theorem dX8_byMagpies_42 : decode cX8_byMagpies 42 = .ok (.lconst 1, 1) := by decide +kernel
theorem dX8_byMagpies_43 : decode cX8_byMagpies 43 = .ok (.lmul, 1) := by decide +kernel
theorem dX8_byMagpies_44 : decode cX8_byMagpies 44 = .ok (.lstore 7, 2) := by decide +kernel
theorem dX8_byMagpies_46 : decode cX8_byMagpies 46 = .ok (.iinc 9 1, 3) := by decide +kernel
theorem dX8_byMagpies_49 : decode cX8_byMagpies 49 = .ok (.goto (-34), 3) := by decide +kernel
theorem dX8_byMagpies_52 : decode cX8_byMagpies 52 = .ok (.aload_n 0, 1) := by decide +kernel
theorem dX8_byMagpies_53 : decode cX8_byMagpies 53 = .ok (.iconst 0, 1) := by decide +kernel
theorem dX8_byMagpies_54 : decode cX8_byMagpies 54 = .ok (.bipush 100, 2) := by decide +kernel
theorem dX8_byMagpies_56 : decode cX8_byMagpies 56 = .ok (.invokevirtual 255, 3) := by decide +kernel
theorem dX8_byMagpies_59 : decode cX8_byMagpies 59 = .ok (.iconst 0, 1) := by decide +kernel
theorem dX8_byMagpies_60 : decode cX8_byMagpies 60 = .ok (.istore 9, 2) := by decide +kernel
theorem dX8_byMagpies_62 : decode cX8_byMagpies 62 = .ok (.iload 9, 2) := by decide +kernel
theorem dX8_byMagpies_64 : decode cX8_byMagpies 64 = .ok (.iconst 1, 1) := by decide +kernel
theorem dX8_byMagpies_65 : decode cX8_byMagpies 65 = .ok (.aload_n 0, 1) := by decide +kernel
theorem dX8_byMagpies_66 : decode cX8_byMagpies 66 = .ok (.getfield 13, 3) := by decide +kernel
theorem dX8_byMagpies_69 : decode cX8_byMagpies 69 = .ok (.ishl, 1) := by decide +kernel
theorem dX8_byMagpies_70 : decode cX8_byMagpies 70 = .ok (.if_icmp .ge 130, 3) := by decide +kernel
theorem dX8_byMagpies_73 : decode cX8_byMagpies 73 = .ok (.iload 9, 2) := by decide +kernel
theorem dX8_byMagpies_75 : decode cX8_byMagpies 75 = .ok (.iload 4, 2) := by decide +kernel
theorem dX8_byMagpies_77 : decode cX8_byMagpies 77 = .ok (.iand, 1) := by decide +kernel
theorem dX8_byMagpies_78 : decode cX8_byMagpies 78 = .ok (.ifCond .ne 116, 3) := by decide +kernel
theorem dX8_byMagpies_81 : decode cX8_byMagpies 81 = .ok (.lconst 1, 1) := by decide +kernel
theorem dX8_byMagpies_82 : decode cX8_byMagpies 82 = .ok (.lstore 10, 2) := by decide +kernel
theorem dX8_byMagpies_84 : decode cX8_byMagpies 84 = .ok (.iconst 0, 1) := by decide +kernel
theorem dX8_byMagpies_85 : decode cX8_byMagpies 85 = .ok (.istore 12, 2) := by decide +kernel
theorem dX8_byMagpies_87 : decode cX8_byMagpies 87 = .ok (.iload 12, 2) := by decide +kernel
theorem dX8_byMagpies_89 : decode cX8_byMagpies 89 = .ok (.aload_n 0, 1) := by decide +kernel
theorem dX8_byMagpies_90 : decode cX8_byMagpies 90 = .ok (.getfield 13, 3) := by decide +kernel
theorem dX8_byMagpies_93 : decode cX8_byMagpies 93 = .ok (.if_icmp .ge 50, 3) := by decide +kernel
theorem dX8_byMagpies_96 : decode cX8_byMagpies 96 = .ok (.lload 10, 2) := by decide +kernel
theorem dX8_byMagpies_98 : decode cX8_byMagpies 98 = .ok (.iload 4, 2) := by decide +kernel
theorem dX8_byMagpies_100 : decode cX8_byMagpies 100 = .ok (.iload 12, 2) := by decide +kernel
theorem dX8_byMagpies_102 : decode cX8_byMagpies 102 = .ok (.ishr, 1) := by decide +kernel
theorem dX8_byMagpies_103 : decode cX8_byMagpies 103 = .ok (.iconst 1, 1) := by decide +kernel
theorem dX8_byMagpies_104 : decode cX8_byMagpies 104 = .ok (.iand, 1) := by decide +kernel
theorem dX8_byMagpies_105 : decode cX8_byMagpies 105 = .ok (.iconst 1, 1) := by decide +kernel
theorem dX8_byMagpies_106 : decode cX8_byMagpies 106 = .ok (.if_icmp .ne 7, 3) := by decide +kernel
theorem dX8_byMagpies_109 : decode cX8_byMagpies 109 = .ok (.lconst 1, 1) := by decide +kernel
theorem dX8_byMagpies_110 : decode cX8_byMagpies 110 = .ok (.goto 24, 3) := by decide +kernel
theorem dX8_byMagpies_113 : decode cX8_byMagpies 113 = .ok (.iload 9, 2) := by decide +kernel
theorem dX8_byMagpies_115 : decode cX8_byMagpies 115 = .ok (.iload 12, 2) := by decide +kernel
theorem dX8_byMagpies_117 : decode cX8_byMagpies 117 = .ok (.ishr, 1) := by decide +kernel
theorem dX8_byMagpies_118 : decode cX8_byMagpies 118 = .ok (.iconst 1, 1) := by decide +kernel
theorem dX8_byMagpies_119 : decode cX8_byMagpies 119 = .ok (.iand, 1) := by decide +kernel
theorem dX8_byMagpies_120 : decode cX8_byMagpies 120 = .ok (.iconst 1, 1) := by decide +kernel
theorem dX8_byMagpies_121 : decode cX8_byMagpies 121 = .ok (.if_icmp .ne 8, 3) := by decide +kernel
theorem dX8_byMagpies_124 : decode cX8_byMagpies 124 = .ok (.iload_n 1, 1) := by decide +kernel
theorem dX8_byMagpies_125 : decode cX8_byMagpies 125 = .ok (.i2l, 1) := by decide +kernel
theorem dX8_byMagpies_126 : decode cX8_byMagpies 126 = .ok (.goto 8, 3) := by decide +kernel
theorem dX8_byMagpies_129 : decode cX8_byMagpies 129 = .ok (.bipush 10, 2) := by decide +kernel
theorem dX8_byMagpies_131 : decode cX8_byMagpies 131 = .ok (.iload_n 1, 1) := by decide +kernel
theorem dX8_byMagpies_132 : decode cX8_byMagpies 132 = .ok (.isub, 1) := by decide +kernel
theorem dX8_byMagpies_133 : decode cX8_byMagpies 133 = .ok (.i2l, 1) := by decide +kernel
theorem dX8_byMagpies_134 : decode cX8_byMagpies 134 = .ok (.lmul, 1) := by decide +kernel
theorem dX8_byMagpies_135 : decode cX8_byMagpies 135 = .ok (.lstore 10, 2) := by decide +kernel
theorem dX8_byMagpies_137 : decode cX8_byMagpies 137 = .ok (.iinc 12 1, 3) := by decide +kernel
theorem dX8_byMagpies_140 : decode cX8_byMagpies 140 = .ok (.goto (-53), 3) := by decide +kernel
theorem dX8_byMagpies_143 : decode cX8_byMagpies 143 = .ok (.aload_n 0, 1) := by decide +kernel
theorem dX8_byMagpies_144 : decode cX8_byMagpies 144 = .ok (.iload 9, 2) := by decide +kernel
theorem dX8_byMagpies_146 : decode cX8_byMagpies 146 = .ok (.invokevirtual 261, 3) := by decide +kernel
theorem dX8_byMagpies_149 : decode cX8_byMagpies 149 = .ok (.aload_n 0, 1) := by decide +kernel
theorem dX8_byMagpies_150 : decode cX8_byMagpies 150 = .ok (.invokevirtual 236, 3) := by decide +kernel
theorem dX8_byMagpies_153 : decode cX8_byMagpies 153 = .ok (.lload 5, 2) := by decide +kernel
theorem dX8_byMagpies_155 : decode cX8_byMagpies 155 = .ok (.lload 10, 2) := by decide +kernel
theorem dX8_byMagpies_157 : decode cX8_byMagpies 157 = .ok (.iload_n 2, 1) := by decide +kernel
theorem dX8_byMagpies_158 : decode cX8_byMagpies 158 = .ok (.ifCond .eq 10, 3) := by decide +kernel
theorem dX8_byMagpies_161 : decode cX8_byMagpies 161 = .ok (.aload_n 0, 1) := by decide +kernel
theorem dX8_byMagpies_162 : decode cX8_byMagpies 162 = .ok (.invokevirtual 241, 3) := by decide +kernel
theorem dX8_byMagpies_165 : decode cX8_byMagpies 165 = .ok (.goto 17, 3) := by decide +kernel
theorem dX8_byMagpies_168 : decode cX8_byMagpies 168 = .ok (.aload_n 0, 1) := by decide +kernel
theorem dX8_byMagpies_169 : decode cX8_byMagpies 169 = .ok (.getfield 223, 3) := by decide +kernel
theorem dX8_byMagpies_172 : decode cX8_byMagpies 172 = .ok (.bipush (-4), 2) := by decide +kernel
theorem dX8_byMagpies_174 : decode cX8_byMagpies 174 = .ok (.if_icmp .ne 7, 3) := by decide +kernel
theorem dX8_byMagpies_177 : decode cX8_byMagpies 177 = .ok (.iconst 1, 1) := by decide +kernel
theorem dX8_byMagpies_178 : decode cX8_byMagpies 178 = .ok (.goto 4, 3) := by decide +kernel
theorem dX8_byMagpies_181 : decode cX8_byMagpies 181 = .ok (.iconst 0, 1) := by decide +kernel
theorem dX8_byMagpies_182 : decode cX8_byMagpies 182 = .ok (.i2l, 1) := by decide +kernel
theorem dX8_byMagpies_183 : decode cX8_byMagpies 183 = .ok (.lmul, 1) := by decide +kernel
theorem dX8_byMagpies_184 : decode cX8_byMagpies 184 = .ok (.ladd, 1) := by decide +kernel
theorem dX8_byMagpies_185 : decode cX8_byMagpies 185 = .ok (.lstore 5, 2) := by decide +kernel
theorem dX8_byMagpies_187 : decode cX8_byMagpies 187 = .ok (.aload_n 0, 1) := by decide +kernel
theorem dX8_byMagpies_188 : decode cX8_byMagpies 188 = .ok (.bipush 100, 2) := by decide +kernel
theorem dX8_byMagpies_190 : decode cX8_byMagpies 190 = .ok (.iconst 0, 1) := by decide +kernel
theorem dX8_byMagpies_191 : decode cX8_byMagpies 191 = .ok (.invokevirtual 255, 3) := by decide +kernel
theorem dX8_byMagpies_194 : decode cX8_byMagpies 194 = .ok (.iinc 9 1, 3) := by decide +kernel
theorem dX8_byMagpies_197 : decode cX8_byMagpies 197 = .ok (.goto (-135), 3) := by decide +kernel
theorem dX8_byMagpies_200 : decode cX8_byMagpies 200 = .ok (.lload 5, 2) := by decide +kernel
theorem dX8_byMagpies_202 : decode cX8_byMagpies 202 = .ok (.lload 7, 2) := by decide +kernel
theorem dX8_byMagpies_204 : decode cX8_byMagpies 204 = .ok (.iload_n 3, 1) := by decide +kernel
theorem dX8_byMagpies_205 : decode cX8_byMagpies 205 = .ok (.invokestatic 267, 3) := by decide +kernel
theorem dX8_byMagpies_208 : decode cX8_byMagpies 208 = .ok (.lreturn, 1) := by decide +kernel
theorem dX8_mean_0 : decode cX8_mean 0 = .ok (.iload_n 1, 1) := by decide +kernel
theorem dX8_mean_1 : decode cX8_mean 1 = .ok (.i2l, 1) := by decide +kernel
theorem dX8_mean_2 : decode cX8_mean 2 = .ok (.lconst 0, 1) := by decide +kernel
theorem dX8_mean_3 : decode cX8_mean 3 = .ok (.ldc2_w 150, 3) := by decide +kernel
theorem dX8_mean_6 : decode cX8_mean 6 = .ok (.invokestatic 74, 3) := by decide +kernel
theorem dX8_mean_9 : decode cX8_mean 9 = .ok (.ifCond .eq 23, 3) := by decide +kernel
theorem dX8_mean_12 : decode cX8_mean 12 = .ok (.iload_n 2, 1) := by decide +kernel
theorem dX8_mean_13 : decode cX8_mean 13 = .ok (.i2l, 1) := by decide +kernel
theorem dX8_mean_14 : decode cX8_mean 14 = .ok (.lconst 0, 1) := by decide +kernel
theorem dX8_mean_15 : decode cX8_mean 15 = .ok (.lconst 1, 1) := by decide +kernel
theorem dX8_mean_16 : decode cX8_mean 16 = .ok (.invokestatic 74, 3) := by decide +kernel
theorem dX8_mean_19 : decode cX8_mean 19 = .ok (.ifCond .eq 13, 3) := by decide +kernel
theorem dX8_mean_22 : decode cX8_mean 22 = .ok (.aload_n 0, 1) := by decide +kernel
theorem dX8_mean_23 : decode cX8_mean 23 = .ok (.iload_n 1, 1) := by decide +kernel
theorem dX8_mean_24 : decode cX8_mean 24 = .ok (.iconst 1, 1) := by decide +kernel
theorem dX8_mean_25 : decode cX8_mean 25 = .ok (.iload_n 2, 1) := by decide +kernel
theorem dX8_mean_26 : decode cX8_mean 26 = .ok (.invokevirtual 271, 3) := by decide +kernel
theorem dX8_mean_29 : decode cX8_mean 29 = .ok (.goto 6, 3) := by decide +kernel
theorem dX8_mean_32 : decode cX8_mean 32 = .ok (.ldc2_w 275, 3) := by decide +kernel
theorem dX8_mean_35 : decode cX8_mean 35 = .ok (.lreturn, 1) := by decide +kernel
theorem dX8_luck_0 : decode cX8_luck 0 = .ok (.iload_n 1, 1) := by decide +kernel
theorem dX8_luck_1 : decode cX8_luck 1 = .ok (.i2l, 1) := by decide +kernel
theorem dX8_luck_2 : decode cX8_luck 2 = .ok (.lconst 0, 1) := by decide +kernel
theorem dX8_luck_3 : decode cX8_luck 3 = .ok (.ldc2_w 150, 3) := by decide +kernel
theorem dX8_luck_6 : decode cX8_luck 6 = .ok (.invokestatic 74, 3) := by decide +kernel
theorem dX8_luck_9 : decode cX8_luck 9 = .ok (.ifCond .eq 23, 3) := by decide +kernel
theorem dX8_luck_12 : decode cX8_luck 12 = .ok (.iload_n 2, 1) := by decide +kernel
theorem dX8_luck_13 : decode cX8_luck 13 = .ok (.i2l, 1) := by decide +kernel
theorem dX8_luck_14 : decode cX8_luck 14 = .ok (.lconst 0, 1) := by decide +kernel
theorem dX8_luck_15 : decode cX8_luck 15 = .ok (.lconst 1, 1) := by decide +kernel
theorem dX8_luck_16 : decode cX8_luck 16 = .ok (.invokestatic 74, 3) := by decide +kernel
theorem dX8_luck_19 : decode cX8_luck 19 = .ok (.ifCond .eq 13, 3) := by decide +kernel
theorem dX8_luck_22 : decode cX8_luck 22 = .ok (.aload_n 0, 1) := by decide +kernel
theorem dX8_luck_23 : decode cX8_luck 23 = .ok (.iload_n 1, 1) := by decide +kernel
theorem dX8_luck_24 : decode cX8_luck 24 = .ok (.iconst 0, 1) := by decide +kernel
theorem dX8_luck_25 : decode cX8_luck 25 = .ok (.iload_n 2, 1) := by decide +kernel
theorem dX8_luck_26 : decode cX8_luck 26 = .ok (.invokevirtual 271, 3) := by decide +kernel
theorem dX8_luck_29 : decode cX8_luck 29 = .ok (.goto 6, 3) := by decide +kernel
theorem dX8_luck_32 : decode cX8_luck 32 = .ok (.ldc2_w 275, 3) := by decide +kernel
theorem dX8_luck_35 : decode cX8_luck 35 = .ok (.lreturn, 1) := by decide +kernel
theorem dX8_see_0 : decode cX8_see 0 = .ok (.aload_n 0, 1) := by decide +kernel
theorem dX8_see_1 : decode cX8_see 1 = .ok (.iload_n 1, 1) := by decide +kernel
theorem dX8_see_2 : decode cX8_see 2 = .ok (.invokevirtual 194, 3) := by decide +kernel
theorem dX8_see_5 : decode cX8_see 5 = .ok (.ifCond .eq 29, 3) := by decide +kernel
theorem dX8_see_8 : decode cX8_see 8 = .ok (.iload_n 2, 1) := by decide +kernel
theorem dX8_see_9 : decode cX8_see 9 = .ok (.i2l, 1) := by decide +kernel
theorem dX8_see_10 : decode cX8_see 10 = .ok (.lconst 0, 1) := by decide +kernel
theorem dX8_see_11 : decode cX8_see 11 = .ok (.ldc2_w 239, 3) := by decide +kernel
theorem dX8_see_14 : decode cX8_see 14 = .ok (.invokestatic 74, 3) := by decide +kernel
theorem dX8_see_17 : decode cX8_see 17 = .ok (.ifCond .eq 17, 3) := by decide +kernel
theorem dX8_see_20 : decode cX8_see 20 = .ok (.iload_n 3, 1) := by decide +kernel
theorem dX8_see_21 : decode cX8_see 21 = .ok (.bipush (-4), 2) := by decide +kernel
theorem dX8_see_23 : decode cX8_see 23 = .ok (.if_icmp .eq 13, 3) := by decide +kernel
theorem dX8_see_26 : decode cX8_see 26 = .ok (.aload_n 0, 1) := by decide +kernel
theorem dX8_see_27 : decode cX8_see 27 = .ok (.iload_n 3, 1) := by decide +kernel
theorem dX8_see_28 : decode cX8_see 28 = .ok (.invokevirtual 185, 3) := by decide +kernel
theorem dX8_see_31 : decode cX8_see 31 = .ok (.ifCond .ne 5, 3) := by decide +kernel
theorem dX8_see_34 : decode cX8_see 34 = .ok (.iconst (-1), 1) := by decide +kernel
theorem dX8_see_35 : decode cX8_see 35 = .ok (.ireturn, 1) := by decide +kernel
theorem dX8_see_36 : decode cX8_see 36 = .ok (.aload_n 0, 1) := by decide +kernel
theorem dX8_see_37 : decode cX8_see 37 = .ok (.getfield 179, 3) := by decide +kernel
theorem dX8_see_40 : decode cX8_see 40 = .ok (.bipush 6, 2) := by decide +kernel
theorem dX8_see_42 : decode cX8_see 42 = .ok (.if_icmp .ne 6, 3) := by decide +kernel
theorem dX8_see_45 : decode cX8_see 45 = .ok (.bipush (-3), 2) := by decide +kernel
theorem dX8_see_47 : decode cX8_see 47 = .ok (.ireturn, 1) := by decide +kernel
theorem dX8_see_48 : decode cX8_see 48 = .ok (.aload_n 0, 1) := by decide +kernel
theorem dX8_see_49 : decode cX8_see 49 = .ok (.getfield 54, 3) := by decide +kernel
theorem dX8_see_52 : decode cX8_see 52 = .ok (.iconst 3, 1) := by decide +kernel
theorem dX8_see_53 : decode cX8_see 53 = .ok (.aload_n 0, 1) := by decide +kernel
theorem dX8_see_54 : decode cX8_see 54 = .ok (.getfield 179, 3) := by decide +kernel
theorem dX8_see_57 : decode cX8_see 57 = .ok (.imul, 1) := by decide +kernel
theorem dX8_see_58 : decode cX8_see 58 = .ok (.iload_n 1, 1) := by decide +kernel
theorem dX8_see_59 : decode cX8_see 59 = .ok (.iastore, 1) := by decide +kernel
theorem dX8_see_60 : decode cX8_see 60 = .ok (.aload_n 0, 1) := by decide +kernel
theorem dX8_see_61 : decode cX8_see 61 = .ok (.getfield 54, 3) := by decide +kernel
theorem dX8_see_64 : decode cX8_see 64 = .ok (.iconst 3, 1) := by decide +kernel
theorem dX8_see_65 : decode cX8_see 65 = .ok (.aload_n 0, 1) := by decide +kernel
theorem dX8_see_66 : decode cX8_see 66 = .ok (.getfield 179, 3) := by decide +kernel
theorem dX8_see_69 : decode cX8_see 69 = .ok (.imul, 1) := by decide +kernel
theorem dX8_see_70 : decode cX8_see 70 = .ok (.iconst 1, 1) := by decide +kernel
theorem dX8_see_71 : decode cX8_see 71 = .ok (.iadd, 1) := by decide +kernel
theorem dX8_see_72 : decode cX8_see 72 = .ok (.iload_n 2, 1) := by decide +kernel
theorem dX8_see_73 : decode cX8_see 73 = .ok (.iastore, 1) := by decide +kernel
theorem dX8_see_74 : decode cX8_see 74 = .ok (.aload_n 0, 1) := by decide +kernel
theorem dX8_see_75 : decode cX8_see 75 = .ok (.getfield 54, 3) := by decide +kernel
theorem dX8_see_78 : decode cX8_see 78 = .ok (.iconst 3, 1) := by decide +kernel
theorem dX8_see_79 : decode cX8_see 79 = .ok (.aload_n 0, 1) := by decide +kernel
theorem dX8_see_80 : decode cX8_see 80 = .ok (.getfield 179, 3) := by decide +kernel
theorem dX8_see_83 : decode cX8_see 83 = .ok (.imul, 1) := by decide +kernel
theorem dX8_see_84 : decode cX8_see 84 = .ok (.iconst 2, 1) := by decide +kernel
theorem dX8_see_85 : decode cX8_see 85 = .ok (.iadd, 1) := by decide +kernel
theorem dX8_see_86 : decode cX8_see 86 = .ok (.iload_n 3, 1) := by decide +kernel
theorem dX8_see_87 : decode cX8_see 87 = .ok (.iastore, 1) := by decide +kernel
theorem dX8_see_88 : decode cX8_see 88 = .ok (.aload_n 0, 1) := by decide +kernel
theorem dX8_see_89 : decode cX8_see 89 = .ok (.dup, 1) := by decide +kernel
theorem dX8_see_90 : decode cX8_see 90 = .ok (.getfield 179, 3) := by decide +kernel
theorem dX8_see_93 : decode cX8_see 93 = .ok (.iconst 1, 1) := by decide +kernel
theorem dX8_see_94 : decode cX8_see 94 = .ok (.iadd, 1) := by decide +kernel
theorem dX8_see_95 : decode cX8_see 95 = .ok (.putfield 179, 3) := by decide +kernel
theorem dX8_see_98 : decode cX8_see 98 = .ok (.aload_n 0, 1) := by decide +kernel
theorem dX8_see_99 : decode cX8_see 99 = .ok (.getfield 179, 3) := by decide +kernel
theorem dX8_see_102 : decode cX8_see 102 = .ok (.ireturn, 1) := by decide +kernel
theorem dX8_forget_0 : decode cX8_forget 0 = .ok (.iload_n 1, 1) := by decide +kernel
theorem dX8_forget_1 : decode cX8_forget 1 = .ok (.i2l, 1) := by decide +kernel
theorem dX8_forget_2 : decode cX8_forget 2 = .ok (.lconst 0, 1) := by decide +kernel
theorem dX8_forget_3 : decode cX8_forget 3 = .ok (.aload_n 0, 1) := by decide +kernel
theorem dX8_forget_4 : decode cX8_forget 4 = .ok (.getfield 179, 3) := by decide +kernel
theorem dX8_forget_7 : decode cX8_forget 7 = .ok (.i2l, 1) := by decide +kernel
theorem dX8_forget_8 : decode cX8_forget 8 = .ok (.invokestatic 74, 3) := by decide +kernel
theorem dX8_forget_11 : decode cX8_forget 11 = .ok (.ifCond .ne 5, 3) := by decide +kernel
theorem dX8_forget_14 : decode cX8_forget 14 = .ok (.iconst (-1), 1) := by decide +kernel
theorem dX8_forget_15 : decode cX8_forget 15 = .ok (.ireturn, 1) := by decide +kernel
theorem dX8_forget_16 : decode cX8_forget 16 = .ok (.aload_n 0, 1) := by decide +kernel
theorem dX8_forget_17 : decode cX8_forget 17 = .ok (.getfield 179, 3) := by decide +kernel
theorem dX8_forget_20 : decode cX8_forget 20 = .ok (.istore_n 2, 1) := by decide +kernel
theorem dX8_forget_21 : decode cX8_forget 21 = .ok (.aload_n 0, 1) := by decide +kernel
theorem dX8_forget_22 : decode cX8_forget 22 = .ok (.iload_n 1, 1) := by decide +kernel
theorem dX8_forget_23 : decode cX8_forget 23 = .ok (.putfield 179, 3) := by decide +kernel
theorem dX8_forget_26 : decode cX8_forget 26 = .ok (.iload_n 2, 1) := by decide +kernel
theorem dX8_forget_27 : decode cX8_forget 27 = .ok (.ireturn, 1) := by decide +kernel
theorem dX8_faithsOf_0 : decode cX8_faithsOf 0 = .ok (.iconst 0, 1) := by decide +kernel
theorem dX8_faithsOf_1 : decode cX8_faithsOf 1 = .ok (.istore_n 2, 1) := by decide +kernel
theorem dX8_faithsOf_2 : decode cX8_faithsOf 2 = .ok (.aload_n 0, 1) := by decide +kernel
theorem dX8_faithsOf_3 : decode cX8_faithsOf 3 = .ok (.getfield 7, 3) := by decide +kernel
theorem dX8_faithsOf_6 : decode cX8_faithsOf 6 = .ok (.bipush 9, 2) := by decide +kernel
theorem dX8_faithsOf_8 : decode cX8_faithsOf 8 = .ok (.iload_n 1, 1) := by decide +kernel
theorem dX8_faithsOf_9 : decode cX8_faithsOf 9 = .ok (.iadd, 1) := by decide +kernel
theorem dX8_faithsOf_10 : decode cX8_faithsOf 10 = .ok (.iaload, 1) := by decide +kernel
theorem dX8_faithsOf_11 : decode cX8_faithsOf 11 = .ok (.istore_n 3, 1) := by decide +kernel
theorem dX8_faithsOf_12 : decode cX8_faithsOf 12 = .ok (.iconst 0, 1) := by decide +kernel
theorem dX8_faithsOf_13 : decode cX8_faithsOf 13 = .ok (.istore 4, 2) := by decide +kernel
theorem dX8_faithsOf_15 : decode cX8_faithsOf 15 = .ok (.iload 4, 2) := by decide +kernel
theorem dX8_faithsOf_17 : decode cX8_faithsOf 17 = .ok (.iconst 4, 1) := by decide +kernel
theorem dX8_faithsOf_18 : decode cX8_faithsOf 18 = .ok (.if_icmp .ge 159, 3) := by decide +kernel
theorem dX8_faithsOf_21 : decode cX8_faithsOf 21 = .ok (.aload_n 0, 1) := by decide +kernel
theorem dX8_faithsOf_22 : decode cX8_faithsOf 22 = .ok (.getfield 7, 3) := by decide +kernel
theorem dX8_faithsOf_25 : decode cX8_faithsOf 25 = .ok (.bipush 9, 2) := by decide +kernel
theorem dX8_faithsOf_27 : decode cX8_faithsOf 27 = .ok (.iload_n 1, 1) := by decide +kernel
theorem dX8_faithsOf_28 : decode cX8_faithsOf 28 = .ok (.iadd, 1) := by decide +kernel
theorem dX8_faithsOf_29 : decode cX8_faithsOf 29 = .ok (.iload 4, 2) := by decide +kernel
theorem dX8_faithsOf_31 : decode cX8_faithsOf 31 = .ok (.iastore, 1) := by decide +kernel
theorem dX8_faithsOf_32 : decode cX8_faithsOf 32 = .ok (.aload_n 0, 1) := by decide +kernel
theorem dX8_faithsOf_33 : decode cX8_faithsOf 33 = .ok (.invokevirtual 236, 3) := by decide +kernel
theorem dX8_faithsOf_36 : decode cX8_faithsOf 36 = .ok (.iconst 1, 1) := by decide +kernel
theorem dX8_faithsOf_37 : decode cX8_faithsOf 37 = .ok (.istore 5, 2) := by decide +kernel
theorem dX8_faithsOf_39 : decode cX8_faithsOf 39 = .ok (.iconst 0, 1) := by decide +kernel
theorem dX8_faithsOf_40 : decode cX8_faithsOf 40 = .ok (.istore 6, 2) := by decide +kernel
theorem dX8_faithsOf_42 : decode cX8_faithsOf 42 = .ok (.iload 6, 2) := by decide +kernel
theorem dX8_faithsOf_44 : decode cX8_faithsOf 44 = .ok (.aload_n 0, 1) := by decide +kernel
theorem dX8_faithsOf_45 : decode cX8_faithsOf 45 = .ok (.getfield 179, 3) := by decide +kernel
theorem dX8_faithsOf_48 : decode cX8_faithsOf 48 = .ok (.if_icmp .ge 68, 3) := by decide +kernel
theorem dX8_faithsOf_51 : decode cX8_faithsOf 51 = .ok (.iload 5, 2) := by decide +kernel
theorem dX8_faithsOf_53 : decode cX8_faithsOf 53 = .ok (.ifCond .eq 54, 3) := by decide +kernel
theorem dX8_faithsOf_56 : decode cX8_faithsOf 56 = .ok (.aload_n 0, 1) := by decide +kernel
theorem dX8_faithsOf_57 : decode cX8_faithsOf 57 = .ok (.getfield 54, 3) := by decide +kernel
theorem dX8_faithsOf_60 : decode cX8_faithsOf 60 = .ok (.iconst 3, 1) := by decide +kernel
theorem dX8_faithsOf_61 : decode cX8_faithsOf 61 = .ok (.iload 6, 2) := by decide +kernel
theorem dX8_faithsOf_63 : decode cX8_faithsOf 63 = .ok (.imul, 1) := by decide +kernel
theorem dX8_faithsOf_64 : decode cX8_faithsOf 64 = .ok (.iaload, 1) := by decide +kernel
theorem dX8_faithsOf_65 : decode cX8_faithsOf 65 = .ok (.iload_n 1, 1) := by decide +kernel
theorem dX8_faithsOf_66 : decode cX8_faithsOf 66 = .ok (.if_icmp .ne 37, 3) := by decide +kernel
theorem dX8_faithsOf_69 : decode cX8_faithsOf 69 = .ok (.aload_n 0, 1) := by decide +kernel
theorem dX8_faithsOf_70 : decode cX8_faithsOf 70 = .ok (.getfield 51, 3) := by decide +kernel
theorem dX8_faithsOf_73 : decode cX8_faithsOf 73 = .ok (.iconst 4, 1) := by decide +kernel
theorem dX8_faithsOf_74 : decode cX8_faithsOf 74 = .ok (.aload_n 0, 1) := by decide +kernel
theorem dX8_faithsOf_75 : decode cX8_faithsOf 75 = .ok (.getfield 54, 3) := by decide +kernel
theorem dX8_faithsOf_78 : decode cX8_faithsOf 78 = .ok (.iconst 3, 1) := by decide +kernel
theorem dX8_faithsOf_79 : decode cX8_faithsOf 79 = .ok (.iload 6, 2) := by decide +kernel
theorem dX8_faithsOf_81 : decode cX8_faithsOf 81 = .ok (.imul, 1) := by decide +kernel
theorem dX8_faithsOf_82 : decode cX8_faithsOf 82 = .ok (.iconst 1, 1) := by decide +kernel
theorem dX8_faithsOf_83 : decode cX8_faithsOf 83 = .ok (.iadd, 1) := by decide +kernel
theorem dX8_faithsOf_84 : decode cX8_faithsOf 84 = .ok (.iaload, 1) := by decide +kernel
theorem dX8_faithsOf_85 : decode cX8_faithsOf 85 = .ok (.imul, 1) := by decide +kernel
theorem dX8_faithsOf_86 : decode cX8_faithsOf 86 = .ok (.iload_n 1, 1) := by decide +kernel
theorem dX8_faithsOf_87 : decode cX8_faithsOf 87 = .ok (.iadd, 1) := by decide +kernel
theorem dX8_faithsOf_88 : decode cX8_faithsOf 88 = .ok (.iaload, 1) := by decide +kernel
theorem dX8_faithsOf_89 : decode cX8_faithsOf 89 = .ok (.aload_n 0, 1) := by decide +kernel
theorem dX8_faithsOf_90 : decode cX8_faithsOf 90 = .ok (.getfield 54, 3) := by decide +kernel
theorem dX8_faithsOf_93 : decode cX8_faithsOf 93 = .ok (.iconst 3, 1) := by decide +kernel
theorem dX8_faithsOf_94 : decode cX8_faithsOf 94 = .ok (.iload 6, 2) := by decide +kernel
theorem dX8_faithsOf_96 : decode cX8_faithsOf 96 = .ok (.imul, 1) := by decide +kernel
theorem dX8_faithsOf_97 : decode cX8_faithsOf 97 = .ok (.iconst 2, 1) := by decide +kernel
theorem dX8_faithsOf_98 : decode cX8_faithsOf 98 = .ok (.iadd, 1) := by decide +kernel
theorem dX8_faithsOf_99 : decode cX8_faithsOf 99 = .ok (.iaload, 1) := by decide +kernel
theorem dX8_faithsOf_100 : decode cX8_faithsOf 100 = .ok (.if_icmp .ne 7, 3) := by decide +kernel
theorem dX8_faithsOf_103 : decode cX8_faithsOf 103 = .ok (.iconst 1, 1) := by decide +kernel
theorem dX8_faithsOf_104 : decode cX8_faithsOf 104 = .ok (.goto 4, 3) := by decide +kernel
theorem dX8_faithsOf_107 : decode cX8_faithsOf 107 = .ok (.iconst 0, 1) := by decide +kernel
theorem dX8_faithsOf_108 : decode cX8_faithsOf 108 = .ok (.istore 5, 2) := by decide +kernel
theorem dX8_faithsOf_110 : decode cX8_faithsOf 110 = .ok (.iinc 6 1, 3) := by decide +kernel
theorem dX8_faithsOf_113 : decode cX8_faithsOf 113 = .ok (.goto (-71), 3) := by decide +kernel
theorem dX8_faithsOf_116 : decode cX8_faithsOf 116 = .ok (.iconst 0, 1) := by decide +kernel
theorem dX8_faithsOf_117 : decode cX8_faithsOf 117 = .ok (.istore 6, 2) := by decide +kernel
theorem dX8_faithsOf_119 : decode cX8_faithsOf 119 = .ok (.iload 6, 2) := by decide +kernel
theorem dX8_faithsOf_121 : decode cX8_faithsOf 121 = .ok (.bipush 119, 2) := by decide +kernel
theorem dX8_faithsOf_123 : decode cX8_faithsOf 123 = .ok (.if_icmp .gt 32, 3) := by decide +kernel
theorem dX8_faithsOf_126 : decode cX8_faithsOf 126 = .ok (.aload_n 0, 1) := by decide +kernel
theorem dX8_faithsOf_127 : decode cX8_faithsOf 127 = .ok (.getfield 57, 3) := by decide +kernel
theorem dX8_faithsOf_130 : decode cX8_faithsOf 130 = .ok (.iconst 4, 1) := by decide +kernel
theorem dX8_faithsOf_131 : decode cX8_faithsOf 131 = .ok (.iload 6, 2) := by decide +kernel
theorem dX8_faithsOf_133 : decode cX8_faithsOf 133 = .ok (.imul, 1) := by decide +kernel
theorem dX8_faithsOf_134 : decode cX8_faithsOf 134 = .ok (.iload 4, 2) := by decide +kernel
theorem dX8_faithsOf_136 : decode cX8_faithsOf 136 = .ok (.iadd, 1) := by decide +kernel
theorem dX8_faithsOf_137 : decode cX8_faithsOf 137 = .ok (.aload_n 0, 1) := by decide +kernel
theorem dX8_faithsOf_138 : decode cX8_faithsOf 138 = .ok (.getfield 51, 3) := by decide +kernel
theorem dX8_faithsOf_141 : decode cX8_faithsOf 141 = .ok (.iconst 4, 1) := by decide +kernel
theorem dX8_faithsOf_142 : decode cX8_faithsOf 142 = .ok (.iload 6, 2) := by decide +kernel
theorem dX8_faithsOf_144 : decode cX8_faithsOf 144 = .ok (.imul, 1) := by decide +kernel
theorem dX8_faithsOf_145 : decode cX8_faithsOf 145 = .ok (.iload_n 1, 1) := by decide +kernel
theorem dX8_faithsOf_146 : decode cX8_faithsOf 146 = .ok (.iadd, 1) := by decide +kernel
theorem dX8_faithsOf_147 : decode cX8_faithsOf 147 = .ok (.iaload, 1) := by decide +kernel
theorem dX8_faithsOf_148 : decode cX8_faithsOf 148 = .ok (.iastore, 1) := by decide +kernel
theorem dX8_faithsOf_149 : decode cX8_faithsOf 149 = .ok (.iinc 6 1, 3) := by decide +kernel
theorem dX8_faithsOf_152 : decode cX8_faithsOf 152 = .ok (.goto (-33), 3) := by decide +kernel
theorem dX8_faithsOf_155 : decode cX8_faithsOf 155 = .ok (.iload_n 2, 1) := by decide +kernel
theorem dX8_faithsOf_156 : decode cX8_faithsOf 156 = .ok (.iload 5, 2) := by decide +kernel
theorem dX8_faithsOf_158 : decode cX8_faithsOf 158 = .ok (.ifCond .eq 10, 3) := by decide +kernel
theorem dX8_faithsOf_161 : decode cX8_faithsOf 161 = .ok (.iconst 1, 1) := by decide +kernel
theorem dX8_faithsOf_162 : decode cX8_faithsOf 162 = .ok (.iload 4, 2) := by decide +kernel
theorem dX8_faithsOf_164 : decode cX8_faithsOf 164 = .ok (.ishl, 1) := by decide +kernel
theorem dX8_faithsOf_165 : decode cX8_faithsOf 165 = .ok (.goto 4, 3) := by decide +kernel
theorem dX8_faithsOf_168 : decode cX8_faithsOf 168 = .ok (.iconst 0, 1) := by decide +kernel
theorem dX8_faithsOf_169 : decode cX8_faithsOf 169 = .ok (.ior, 1) := by decide +kernel
theorem dX8_faithsOf_170 : decode cX8_faithsOf 170 = .ok (.istore_n 2, 1) := by decide +kernel
theorem dX8_faithsOf_171 : decode cX8_faithsOf 171 = .ok (.iinc 4 1, 3) := by decide +kernel
theorem dX8_faithsOf_174 : decode cX8_faithsOf 174 = .ok (.goto (-159), 3) := by decide +kernel
theorem dX8_faithsOf_177 : decode cX8_faithsOf 177 = .ok (.aload_n 0, 1) := by decide +kernel
theorem dX8_faithsOf_178 : decode cX8_faithsOf 178 = .ok (.getfield 7, 3) := by decide +kernel
theorem dX8_faithsOf_181 : decode cX8_faithsOf 181 = .ok (.bipush 9, 2) := by decide +kernel
theorem dX8_faithsOf_183 : decode cX8_faithsOf 183 = .ok (.iload_n 1, 1) := by decide +kernel
theorem dX8_faithsOf_184 : decode cX8_faithsOf 184 = .ok (.iadd, 1) := by decide +kernel
theorem dX8_faithsOf_185 : decode cX8_faithsOf 185 = .ok (.iload_n 3, 1) := by decide +kernel
theorem dX8_faithsOf_186 : decode cX8_faithsOf 186 = .ok (.iastore, 1) := by decide +kernel
theorem dX8_faithsOf_187 : decode cX8_faithsOf 187 = .ok (.iload_n 2, 1) := by decide +kernel
theorem dX8_faithsOf_188 : decode cX8_faithsOf 188 = .ok (.ireturn, 1) := by decide +kernel
theorem dX8_fits_0 : decode cX8_fits 0 = .ok (.aload_n 0, 1) := by decide +kernel
theorem dX8_fits_1 : decode cX8_fits 1 = .ok (.iload_n 1, 1) := by decide +kernel
theorem dX8_fits_2 : decode cX8_fits 2 = .ok (.invokevirtual 194, 3) := by decide +kernel
theorem dX8_fits_5 : decode cX8_fits 5 = .ok (.ifCond .eq 11, 3) := by decide +kernel
theorem dX8_fits_8 : decode cX8_fits 8 = .ok (.aload_n 0, 1) := by decide +kernel
theorem dX8_fits_9 : decode cX8_fits 9 = .ok (.iload_n 1, 1) := by decide +kernel
theorem dX8_fits_10 : decode cX8_fits 10 = .ok (.invokevirtual 277, 3) := by decide +kernel
theorem dX8_fits_13 : decode cX8_fits 13 = .ok (.goto 4, 3) := by decide +kernel
theorem dX8_fits_16 : decode cX8_fits 16 = .ok (.iconst (-1), 1) := by decide +kernel
theorem dX8_fits_17 : decode cX8_fits 17 = .ok (.ireturn, 1) := by decide +kernel
theorem dX8_look_0 : decode cX8_look 0 = .ok (.aload_n 0, 1) := by decide +kernel
theorem dX8_look_1 : decode cX8_look 1 = .ok (.iload_n 1, 1) := by decide +kernel
theorem dX8_look_2 : decode cX8_look 2 = .ok (.invokevirtual 194, 3) := by decide +kernel
theorem dX8_look_5 : decode cX8_look 5 = .ok (.ifCond .eq 13, 3) := by decide +kernel
theorem dX8_look_8 : decode cX8_look 8 = .ok (.iload_n 2, 1) := by decide +kernel
theorem dX8_look_9 : decode cX8_look 9 = .ok (.i2l, 1) := by decide +kernel
theorem dX8_look_10 : decode cX8_look 10 = .ok (.lconst 0, 1) := by decide +kernel
theorem dX8_look_11 : decode cX8_look 11 = .ok (.lconst 1, 1) := by decide +kernel
theorem dX8_look_12 : decode cX8_look 12 = .ok (.invokestatic 74, 3) := by decide +kernel
theorem dX8_look_15 : decode cX8_look 15 = .ok (.ifCond .ne 5, 3) := by decide +kernel
theorem dX8_look_18 : decode cX8_look 18 = .ok (.iconst (-1), 1) := by decide +kernel
theorem dX8_look_19 : decode cX8_look 19 = .ok (.ireturn, 1) := by decide +kernel
theorem dX8_look_20 : decode cX8_look 20 = .ok (.aload_n 0, 1) := by decide +kernel
theorem dX8_look_21 : decode cX8_look 21 = .ok (.iload_n 1, 1) := by decide +kernel
theorem dX8_look_22 : decode cX8_look 22 = .ok (.invokevirtual 277, 3) := by decide +kernel
theorem dX8_look_25 : decode cX8_look 25 = .ok (.istore_n 3, 1) := by decide +kernel
theorem dX8_look_26 : decode cX8_look 26 = .ok (.iload_n 3, 1) := by decide +kernel
theorem dX8_look_27 : decode cX8_look 27 = .ok (.invokestatic 247, 3) := by decide +kernel
theorem dX8_look_30 : decode cX8_look 30 = .ok (.istore 4, 2) := by decide +kernel
theorem dX8_look_32 : decode cX8_look 32 = .ok (.bipush (-4), 2) := by decide +kernel
theorem dX8_look_34 : decode cX8_look 34 = .ok (.istore 5, 2) := by decide +kernel
theorem dX8_look_36 : decode cX8_look 36 = .ok (.iconst 0, 1) := by decide +kernel
theorem dX8_look_37 : decode cX8_look 37 = .ok (.istore 6, 2) := by decide +kernel
theorem dX8_look_39 : decode cX8_look 39 = .ok (.iload 6, 2) := by decide +kernel
theorem dX8_look_41 : decode cX8_look 41 = .ok (.bipush 119, 2) := by decide +kernel
theorem dX8_look_43 : decode cX8_look 43 = .ok (.if_icmp .gt 150, 3) := by decide +kernel
theorem dX8_look_46 : decode cX8_look 46 = .ok (.iconst 0, 1) := by decide +kernel
theorem dX8_look_47 : decode cX8_look 47 = .ok (.istore 7, 2) := by decide +kernel
theorem dX8_look_49 : decode cX8_look 49 = .ok (.iconst 0, 1) := by decide +kernel
theorem dX8_look_50 : decode cX8_look 50 = .ok (.istore 8, 2) := by decide +kernel
theorem dX8_look_52 : decode cX8_look 52 = .ok (.iload 8, 2) := by decide +kernel
theorem dX8_look_54 : decode cX8_look 54 = .ok (.iconst 4, 1) := by decide +kernel
theorem dX8_look_55 : decode cX8_look 55 = .ok (.if_icmp .ge 100, 3) := by decide +kernel
theorem dX8_look_58 : decode cX8_look 58 = .ok (.iconst 0, 1) := by decide +kernel
theorem dX8_look_59 : decode cX8_look 59 = .ok (.istore 9, 2) := by decide +kernel
theorem dX8_look_61 : decode cX8_look 61 = .ok (.iconst 0, 1) := by decide +kernel
theorem dX8_look_62 : decode cX8_look 62 = .ok (.istore 10, 2) := by decide +kernel
theorem dX8_look_64 : decode cX8_look 64 = .ok (.iload 10, 2) := by decide +kernel
theorem dX8_look_66 : decode cX8_look 66 = .ok (.iconst 4, 1) := by decide +kernel
theorem dX8_look_67 : decode cX8_look 67 = .ok (.if_icmp .ge 66, 3) := by decide +kernel
theorem dX8_look_70 : decode cX8_look 70 = .ok (.iload_n 3, 1) := by decide +kernel
theorem dX8_look_71 : decode cX8_look 71 = .ok (.iload 8, 2) := by decide +kernel
theorem dX8_look_73 : decode cX8_look 73 = .ok (.ishr, 1) := by decide +kernel
theorem dX8_look_74 : decode cX8_look 74 = .ok (.iconst 1, 1) := by decide +kernel
theorem dX8_look_75 : decode cX8_look 75 = .ok (.iand, 1) := by decide +kernel
theorem dX8_look_76 : decode cX8_look 76 = .ok (.iconst 1, 1) := by decide +kernel
theorem dX8_look_77 : decode cX8_look 77 = .ok (.if_icmp .ne 56, 3) := by decide +kernel
theorem dX8_look_80 : decode cX8_look 80 = .ok (.iload 9, 2) := by decide +kernel
theorem dX8_look_82 : decode cX8_look 82 = .ok (.iload_n 3, 1) := by decide +kernel
theorem dX8_look_83 : decode cX8_look 83 = .ok (.iload 10, 2) := by decide +kernel
theorem dX8_look_85 : decode cX8_look 85 = .ok (.ishr, 1) := by decide +kernel
theorem dX8_look_86 : decode cX8_look 86 = .ok (.iconst 1, 1) := by decide +kernel
theorem dX8_look_87 : decode cX8_look 87 = .ok (.iand, 1) := by decide +kernel
theorem dX8_look_88 : decode cX8_look 88 = .ok (.iconst 1, 1) := by decide +kernel
theorem dX8_look_89 : decode cX8_look 89 = .ok (.if_icmp .ne 34, 3) := by decide +kernel
theorem dX8_look_92 : decode cX8_look 92 = .ok (.aload_n 0, 1) := by decide +kernel
theorem dX8_look_93 : decode cX8_look 93 = .ok (.getfield 57, 3) := by decide +kernel
theorem dX8_look_96 : decode cX8_look 96 = .ok (.iconst 4, 1) := by decide +kernel
theorem dX8_look_97 : decode cX8_look 97 = .ok (.iload 6, 2) := by decide +kernel
theorem dX8_look_99 : decode cX8_look 99 = .ok (.imul, 1) := by decide +kernel
theorem dX8_look_100 : decode cX8_look 100 = .ok (.iload 8, 2) := by decide +kernel
theorem dX8_look_102 : decode cX8_look 102 = .ok (.iadd, 1) := by decide +kernel
theorem dX8_look_103 : decode cX8_look 103 = .ok (.iaload, 1) := by decide +kernel
theorem dX8_look_104 : decode cX8_look 104 = .ok (.aload_n 0, 1) := by decide +kernel
theorem dX8_look_105 : decode cX8_look 105 = .ok (.getfield 57, 3) := by decide +kernel
theorem dX8_look_108 : decode cX8_look 108 = .ok (.iconst 4, 1) := by decide +kernel
theorem dX8_look_109 : decode cX8_look 109 = .ok (.iload 6, 2) := by decide +kernel
theorem dX8_look_111 : decode cX8_look 111 = .ok (.imul, 1) := by decide +kernel
theorem dX8_look_112 : decode cX8_look 112 = .ok (.iload 10, 2) := by decide +kernel
theorem dX8_look_114 : decode cX8_look 114 = .ok (.iadd, 1) := by decide +kernel
theorem dX8_look_115 : decode cX8_look 115 = .ok (.iaload, 1) := by decide +kernel
theorem dX8_look_116 : decode cX8_look 116 = .ok (.if_icmp .ne 7, 3) := by decide +kernel
theorem dX8_look_119 : decode cX8_look 119 = .ok (.iconst 1, 1) := by decide +kernel
theorem dX8_look_120 : decode cX8_look 120 = .ok (.goto 4, 3) := by decide +kernel
theorem dX8_look_123 : decode cX8_look 123 = .ok (.iconst 0, 1) := by decide +kernel
theorem dX8_look_124 : decode cX8_look 124 = .ok (.iadd, 1) := by decide +kernel
theorem dX8_look_125 : decode cX8_look 125 = .ok (.istore 9, 2) := by decide +kernel
theorem dX8_look_127 : decode cX8_look 127 = .ok (.iinc 10 1, 3) := by decide +kernel
theorem dX8_look_130 : decode cX8_look 130 = .ok (.goto (-66), 3) := by decide +kernel
theorem dX8_look_133 : decode cX8_look 133 = .ok (.iload 9, 2) := by decide +kernel
theorem dX8_look_135 : decode cX8_look 135 = .ok (.iload 7, 2) := by decide +kernel
theorem dX8_look_137 : decode cX8_look 137 = .ok (.if_icmp .le 8, 3) := by decide +kernel
theorem dX8_look_140 : decode cX8_look 140 = .ok (.iload 9, 2) := by decide +kernel
theorem dX8_look_142 : decode cX8_look 142 = .ok (.goto 5, 3) := by decide +kernel
theorem dX8_look_145 : decode cX8_look 145 = .ok (.iload 7, 2) := by decide +kernel
theorem dX8_look_147 : decode cX8_look 147 = .ok (.istore 7, 2) := by decide +kernel
theorem dX8_look_149 : decode cX8_look 149 = .ok (.iinc 8 1, 3) := by decide +kernel
theorem dX8_look_152 : decode cX8_look 152 = .ok (.goto (-100), 3) := by decide +kernel
theorem dX8_look_155 : decode cX8_look 155 = .ok (.iload 7, 2) := by decide +kernel
theorem dX8_look_157 : decode cX8_look 157 = .ok (.iload 4, 2) := by decide +kernel
theorem dX8_look_159 : decode cX8_look 159 = .ok (.if_icmp .ge 8, 3) := by decide +kernel
theorem dX8_look_162 : decode cX8_look 162 = .ok (.iload 6, 2) := by decide +kernel
theorem dX8_look_164 : decode cX8_look 164 = .ok (.goto 5, 3) := by decide +kernel
theorem dX8_look_167 : decode cX8_look 167 = .ok (.iload 5, 2) := by decide +kernel
theorem dX8_look_169 : decode cX8_look 169 = .ok (.istore 5, 2) := by decide +kernel
theorem dX8_look_171 : decode cX8_look 171 = .ok (.iload 7, 2) := by decide +kernel
theorem dX8_look_173 : decode cX8_look 173 = .ok (.iload 4, 2) := by decide +kernel
theorem dX8_look_175 : decode cX8_look 175 = .ok (.if_icmp .ge 8, 3) := by decide +kernel
theorem dX8_look_178 : decode cX8_look 178 = .ok (.iload 7, 2) := by decide +kernel
theorem dX8_look_180 : decode cX8_look 180 = .ok (.goto 5, 3) := by decide +kernel
theorem dX8_look_183 : decode cX8_look 183 = .ok (.iload 4, 2) := by decide +kernel
theorem dX8_look_185 : decode cX8_look 185 = .ok (.istore 4, 2) := by decide +kernel
theorem dX8_look_187 : decode cX8_look 187 = .ok (.iinc 6 1, 3) := by decide +kernel
theorem dX8_look_190 : decode cX8_look 190 = .ok (.goto (-151), 3) := by decide +kernel
theorem dX8_look_193 : decode cX8_look 193 = .ok (.iload 5, 2) := by decide +kernel
theorem dX8_look_195 : decode cX8_look 195 = .ok (.bipush (-4), 2) := by decide +kernel
theorem dX8_look_197 : decode cX8_look 197 = .ok (.if_icmp .eq 7, 3) := by decide +kernel
theorem dX8_look_200 : decode cX8_look 200 = .ok (.iload_n 2, 1) := by decide +kernel
theorem dX8_look_201 : decode cX8_look 201 = .ok (.ifCond .ne 8, 3) := by decide +kernel
theorem dX8_look_204 : decode cX8_look 204 = .ok (.iload 5, 2) := by decide +kernel
theorem dX8_look_206 : decode cX8_look 206 = .ok (.goto 5, 3) := by decide +kernel
theorem dX8_look_209 : decode cX8_look 209 = .ok (.iload 4, 2) := by decide +kernel
theorem dX8_look_211 : decode cX8_look 211 = .ok (.ireturn, 1) := by decide +kernel
theorem dX8_draws_0 : decode cX8_draws 0 = .ok (.aload_n 0, 1) := by decide +kernel
theorem dX8_draws_1 : decode cX8_draws 1 = .ok (.aload_n 0, 1) := by decide +kernel
theorem dX8_draws_2 : decode cX8_draws 2 = .ok (.getfield 280, 3) := by decide +kernel
theorem dX8_draws_5 : decode cX8_draws 5 = .ok (.ldc_w 283, 3) := by decide +kernel
theorem dX8_draws_8 : decode cX8_draws 8 = .ok (.imul, 1) := by decide +kernel
theorem dX8_draws_9 : decode cX8_draws 9 = .ok (.sipush 12345, 3) := by decide +kernel
theorem dX8_draws_12 : decode cX8_draws 12 = .ok (.iadd, 1) := by decide +kernel
theorem dX8_draws_13 : decode cX8_draws 13 = .ok (.putfield 280, 3) := by decide +kernel
theorem dX8_draws_16 : decode cX8_draws 16 = .ok (.aload_n 0, 1) := by decide +kernel
theorem dX8_draws_17 : decode cX8_draws 17 = .ok (.getfield 280, 3) := by decide +kernel
theorem dX8_draws_20 : decode cX8_draws 20 = .ok (.bipush 16, 2) := by decide +kernel
theorem dX8_draws_22 : decode cX8_draws 22 = .ok (.ishr, 1) := by decide +kernel
theorem dX8_draws_23 : decode cX8_draws 23 = .ok (.sipush 32767, 3) := by decide +kernel
theorem dX8_draws_26 : decode cX8_draws 26 = .ok (.iand, 1) := by decide +kernel
theorem dX8_draws_27 : decode cX8_draws 27 = .ok (.iload_n 1, 1) := by decide +kernel
theorem dX8_draws_28 : decode cX8_draws 28 = .ok (.irem, 1) := by decide +kernel
theorem dX8_draws_29 : decode cX8_draws 29 = .ok (.ireturn, 1) := by decide +kernel
theorem dX8_drift_0 : decode cX8_drift 0 = .ok (.iload_n 2, 1) := by decide +kernel
theorem dX8_drift_1 : decode cX8_drift 1 = .ok (.i2l, 1) := by decide +kernel
theorem dX8_drift_2 : decode cX8_drift 2 = .ok (.lconst 1, 1) := by decide +kernel
theorem dX8_drift_3 : decode cX8_drift 3 = .ok (.ldc2_w 284, 3) := by decide +kernel
theorem dX8_drift_6 : decode cX8_drift 6 = .ok (.invokestatic 74, 3) := by decide +kernel
theorem dX8_drift_9 : decode cX8_drift 9 = .ok (.ifCond .eq 13, 3) := by decide +kernel
theorem dX8_drift_12 : decode cX8_drift 12 = .ok (.iload_n 3, 1) := by decide +kernel
theorem dX8_drift_13 : decode cX8_drift 13 = .ok (.i2l, 1) := by decide +kernel
theorem dX8_drift_14 : decode cX8_drift 14 = .ok (.lconst 0, 1) := by decide +kernel
theorem dX8_drift_15 : decode cX8_drift 15 = .ok (.lconst 1, 1) := by decide +kernel
theorem dX8_drift_16 : decode cX8_drift 16 = .ok (.invokestatic 74, 3) := by decide +kernel
theorem dX8_drift_19 : decode cX8_drift 19 = .ok (.ifCond .ne 5, 3) := by decide +kernel
theorem dX8_drift_22 : decode cX8_drift 22 = .ok (.iconst (-1), 1) := by decide +kernel
theorem dX8_drift_23 : decode cX8_drift 23 = .ok (.ireturn, 1) := by decide +kernel
theorem dX8_drift_24 : decode cX8_drift 24 = .ok (.iconst 0, 1) := by decide +kernel
theorem dX8_drift_25 : decode cX8_drift 25 = .ok (.istore 4, 2) := by decide +kernel
theorem dX8_drift_27 : decode cX8_drift 27 = .ok (.iconst 0, 1) := by decide +kernel
theorem dX8_drift_28 : decode cX8_drift 28 = .ok (.istore 5, 2) := by decide +kernel
theorem dX8_drift_30 : decode cX8_drift 30 = .ok (.aload_n 0, 1) := by decide +kernel
theorem dX8_drift_31 : decode cX8_drift 31 = .ok (.iconst 0, 1) := by decide +kernel
theorem dX8_drift_32 : decode cX8_drift 32 = .ok (.bipush 100, 2) := by decide +kernel
theorem dX8_drift_34 : decode cX8_drift 34 = .ok (.invokevirtual 255, 3) := by decide +kernel
theorem dX8_drift_37 : decode cX8_drift 37 = .ok (.aload_n 0, 1) := by decide +kernel
theorem dX8_drift_38 : decode cX8_drift 38 = .ok (.iload_n 1, 1) := by decide +kernel
theorem dX8_drift_39 : decode cX8_drift 39 = .ok (.putfield 280, 3) := by decide +kernel
theorem dX8_drift_42 : decode cX8_drift 42 = .ok (.iconst 0, 1) := by decide +kernel
theorem dX8_drift_43 : decode cX8_drift 43 = .ok (.istore 6, 2) := by decide +kernel
theorem dX8_drift_45 : decode cX8_drift 45 = .ok (.iload 6, 2) := by decide +kernel
theorem dX8_drift_47 : decode cX8_drift 47 = .ok (.iload_n 2, 1) := by decide +kernel
theorem dX8_drift_48 : decode cX8_drift 48 = .ok (.if_icmp .ge 63, 3) := by decide +kernel
theorem dX8_drift_51 : decode cX8_drift 51 = .ok (.aload_n 0, 1) := by decide +kernel
theorem dX8_drift_52 : decode cX8_drift 52 = .ok (.aload_n 0, 1) := by decide +kernel
theorem dX8_drift_53 : decode cX8_drift 53 = .ok (.getfield 13, 3) := by decide +kernel
theorem dX8_drift_56 : decode cX8_drift 56 = .ok (.invokevirtual 286, 3) := by decide +kernel
theorem dX8_drift_59 : decode cX8_drift 59 = .ok (.istore 7, 2) := by decide +kernel
theorem dX8_drift_61 : decode cX8_drift 61 = .ok (.aload_n 0, 1) := by decide +kernel
theorem dX8_drift_62 : decode cX8_drift 62 = .ok (.iload 7, 2) := by decide +kernel
theorem dX8_drift_64 : decode cX8_drift 64 = .ok (.aload_n 0, 1) := by decide +kernel
theorem dX8_drift_65 : decode cX8_drift 65 = .ok (.iconst 5, 1) := by decide +kernel
theorem dX8_drift_66 : decode cX8_drift 66 = .ok (.invokevirtual 286, 3) := by decide +kernel
theorem dX8_drift_69 : decode cX8_drift 69 = .ok (.invokevirtual 199, 3) := by decide +kernel
theorem dX8_drift_72 : decode cX8_drift 72 = .ok (.pop, 1) := by decide +kernel
theorem dX8_drift_73 : decode cX8_drift 73 = .ok (.aload_n 0, 1) := by decide +kernel
theorem dX8_drift_74 : decode cX8_drift 74 = .ok (.invokevirtual 236, 3) := by decide +kernel
theorem dX8_drift_77 : decode cX8_drift 77 = .ok (.iload 4, 2) := by decide +kernel
theorem dX8_drift_79 : decode cX8_drift 79 = .ok (.aload_n 0, 1) := by decide +kernel
theorem dX8_drift_80 : decode cX8_drift 80 = .ok (.getfield 223, 3) := by decide +kernel
theorem dX8_drift_83 : decode cX8_drift 83 = .ok (.bipush (-4), 2) := by decide +kernel
theorem dX8_drift_85 : decode cX8_drift 85 = .ok (.if_icmp .eq 7, 3) := by decide +kernel
theorem dX8_drift_88 : decode cX8_drift 88 = .ok (.iconst 1, 1) := by decide +kernel
theorem dX8_drift_89 : decode cX8_drift 89 = .ok (.goto 4, 3) := by decide +kernel
theorem dX8_drift_92 : decode cX8_drift 92 = .ok (.iconst 0, 1) := by decide +kernel
theorem dX8_drift_93 : decode cX8_drift 93 = .ok (.iadd, 1) := by decide +kernel
theorem dX8_drift_94 : decode cX8_drift 94 = .ok (.istore 4, 2) := by decide +kernel
theorem dX8_drift_96 : decode cX8_drift 96 = .ok (.iload 5, 2) := by decide +kernel
theorem dX8_drift_98 : decode cX8_drift 98 = .ok (.aload_n 0, 1) := by decide +kernel
theorem dX8_drift_99 : decode cX8_drift 99 = .ok (.invokevirtual 241, 3) := by decide +kernel
theorem dX8_drift_102 : decode cX8_drift 102 = .ok (.iadd, 1) := by decide +kernel
theorem dX8_drift_103 : decode cX8_drift 103 = .ok (.istore 5, 2) := by decide +kernel
theorem dX8_drift_105 : decode cX8_drift 105 = .ok (.iinc 6 1, 3) := by decide +kernel
theorem dX8_drift_108 : decode cX8_drift 108 = .ok (.goto (-63), 3) := by decide +kernel
theorem dX8_drift_111 : decode cX8_drift 111 = .ok (.aload_n 0, 1) := by decide +kernel
theorem dX8_drift_112 : decode cX8_drift 112 = .ok (.bipush 100, 2) := by decide +kernel
theorem dX8_drift_114 : decode cX8_drift 114 = .ok (.iconst 0, 1) := by decide +kernel
theorem dX8_drift_115 : decode cX8_drift 115 = .ok (.invokevirtual 255, 3) := by decide +kernel
theorem dX8_drift_118 : decode cX8_drift 118 = .ok (.iload_n 3, 1) := by decide +kernel
theorem dX8_drift_119 : decode cX8_drift 119 = .ok (.ifCond .ne 8, 3) := by decide +kernel
theorem dX8_drift_122 : decode cX8_drift 122 = .ok (.iload 4, 2) := by decide +kernel
theorem dX8_drift_124 : decode cX8_drift 124 = .ok (.goto 5, 3) := by decide +kernel
theorem dX8_drift_127 : decode cX8_drift 127 = .ok (.iload 5, 2) := by decide +kernel
theorem dX8_drift_129 : decode cX8_drift 129 = .ok (.ireturn, 1) := by decide +kernel
theorem dX8_keep_0 : decode cX8_keep 0 = .ok (.iload_n 1, 1) := by decide +kernel
theorem dX8_keep_1 : decode cX8_keep 1 = .ok (.i2l, 1) := by decide +kernel
theorem dX8_keep_2 : decode cX8_keep 2 = .ok (.lconst 0, 1) := by decide +kernel
theorem dX8_keep_3 : decode cX8_keep 3 = .ok (.lconst 1, 1) := by decide +kernel
theorem dX8_keep_4 : decode cX8_keep 4 = .ok (.invokestatic 74, 3) := by decide +kernel
theorem dX8_keep_7 : decode cX8_keep 7 = .ok (.ifCond .ne 5, 3) := by decide +kernel
theorem dX8_keep_10 : decode cX8_keep 10 = .ok (.iconst (-1), 1) := by decide +kernel
theorem dX8_keep_11 : decode cX8_keep 11 = .ok (.ireturn, 1) := by decide +kernel
theorem dX8_keep_12 : decode cX8_keep 12 = .ok (.aload_n 0, 1) := by decide +kernel
theorem dX8_keep_13 : decode cX8_keep 13 = .ok (.iconst 0, 1) := by decide +kernel
theorem dX8_keep_14 : decode cX8_keep 14 = .ok (.bipush 25, 2) := by decide +kernel
theorem dX8_keep_16 : decode cX8_keep 16 = .ok (.iload_n 1, 1) := by decide +kernel
theorem dX8_keep_17 : decode cX8_keep 17 = .ok (.iconst 1, 1) := by decide +kernel
theorem dX8_keep_18 : decode cX8_keep 18 = .ok (.iadd, 1) := by decide +kernel
theorem dX8_keep_19 : decode cX8_keep 19 = .ok (.imul, 1) := by decide +kernel
theorem dX8_keep_20 : decode cX8_keep 20 = .ok (.invokevirtual 255, 3) := by decide +kernel
theorem dX8_keep_23 : decode cX8_keep 23 = .ok (.aload_n 0, 1) := by decide +kernel
theorem dX8_keep_24 : decode cX8_keep 24 = .ok (.getfield 60, 3) := by decide +kernel
theorem dX8_keep_27 : decode cX8_keep 27 = .ok (.iload_n 1, 1) := by decide +kernel
theorem dX8_keep_28 : decode cX8_keep 28 = .ok (.baload, 1) := by decide +kernel
theorem dX8_keep_29 : decode cX8_keep 29 = .ok (.ifCond .eq 7, 3) := by decide +kernel
theorem dX8_keep_32 : decode cX8_keep 32 = .ok (.iconst 1, 1) := by decide +kernel
theorem dX8_keep_33 : decode cX8_keep 33 = .ok (.goto 4, 3) := by decide +kernel
theorem dX8_keep_36 : decode cX8_keep 36 = .ok (.iconst 0, 1) := by decide +kernel
theorem dX8_keep_37 : decode cX8_keep 37 = .ok (.istore_n 2, 1) := by decide +kernel
theorem dX8_keep_38 : decode cX8_keep 38 = .ok (.aload_n 0, 1) := by decide +kernel
theorem dX8_keep_39 : decode cX8_keep 39 = .ok (.getfield 60, 3) := by decide +kernel
theorem dX8_keep_42 : decode cX8_keep 42 = .ok (.iload_n 1, 1) := by decide +kernel
theorem dX8_keep_43 : decode cX8_keep 43 = .ok (.iconst 1, 1) := by decide +kernel
theorem dX8_keep_44 : decode cX8_keep 44 = .ok (.bastore, 1) := by decide +kernel
theorem dX8_keep_45 : decode cX8_keep 45 = .ok (.iload_n 2, 1) := by decide +kernel
theorem dX8_keep_46 : decode cX8_keep 46 = .ok (.ireturn, 1) := by decide +kernel
theorem dX8_back_0 : decode cX8_back 0 = .ok (.iload_n 1, 1) := by decide +kernel
theorem dX8_back_1 : decode cX8_back 1 = .ok (.i2l, 1) := by decide +kernel
theorem dX8_back_2 : decode cX8_back 2 = .ok (.lconst 0, 1) := by decide +kernel
theorem dX8_back_3 : decode cX8_back 3 = .ok (.lconst 1, 1) := by decide +kernel
theorem dX8_back_4 : decode cX8_back 4 = .ok (.invokestatic 74, 3) := by decide +kernel
theorem dX8_back_7 : decode cX8_back 7 = .ok (.ifCond .ne 5, 3) := by decide +kernel
theorem dX8_back_10 : decode cX8_back 10 = .ok (.iconst (-1), 1) := by decide +kernel
theorem dX8_back_11 : decode cX8_back 11 = .ok (.ireturn, 1) := by decide +kernel
theorem dX8_back_12 : decode cX8_back 12 = .ok (.aload_n 0, 1) := by decide +kernel
theorem dX8_back_13 : decode cX8_back 13 = .ok (.getfield 60, 3) := by decide +kernel
theorem dX8_back_16 : decode cX8_back 16 = .ok (.iload_n 1, 1) := by decide +kernel
theorem dX8_back_17 : decode cX8_back 17 = .ok (.baload, 1) := by decide +kernel
theorem dX8_back_18 : decode cX8_back 18 = .ok (.ifCond .ne 6, 3) := by decide +kernel
theorem dX8_back_21 : decode cX8_back 21 = .ok (.bipush (-2), 2) := by decide +kernel
theorem dX8_back_23 : decode cX8_back 23 = .ok (.ireturn, 1) := by decide +kernel
theorem dX8_back_24 : decode cX8_back 24 = .ok (.aload_n 0, 1) := by decide +kernel
theorem dX8_back_25 : decode cX8_back 25 = .ok (.bipush 25, 2) := by decide +kernel
theorem dX8_back_27 : decode cX8_back 27 = .ok (.iload_n 1, 1) := by decide +kernel
theorem dX8_back_28 : decode cX8_back 28 = .ok (.iconst 1, 1) := by decide +kernel
theorem dX8_back_29 : decode cX8_back 29 = .ok (.iadd, 1) := by decide +kernel
theorem dX8_back_30 : decode cX8_back 30 = .ok (.imul, 1) := by decide +kernel
theorem dX8_back_31 : decode cX8_back 31 = .ok (.iconst 0, 1) := by decide +kernel
theorem dX8_back_32 : decode cX8_back 32 = .ok (.invokevirtual 255, 3) := by decide +kernel
theorem dX8_back_35 : decode cX8_back 35 = .ok (.aload_n 0, 1) := by decide +kernel
theorem dX8_back_36 : decode cX8_back 36 = .ok (.invokevirtual 182, 3) := by decide +kernel
theorem dX8_back_39 : decode cX8_back 39 = .ok (.invokestatic 247, 3) := by decide +kernel
theorem dX8_back_42 : decode cX8_back 42 = .ok (.ireturn, 1) := by decide +kernel
theorem dX8_sheet_0 : decode cX8_sheet 0 = .ok (.iload_n 1, 1) := by decide +kernel
theorem dX8_sheet_1 : decode cX8_sheet 1 = .ok (.i2l, 1) := by decide +kernel
theorem dX8_sheet_2 : decode cX8_sheet 2 = .ok (.lconst 0, 1) := by decide +kernel
theorem dX8_sheet_3 : decode cX8_sheet 3 = .ok (.ldc2_w 197, 3) := by decide +kernel
theorem dX8_sheet_6 : decode cX8_sheet 6 = .ok (.invokestatic 74, 3) := by decide +kernel
theorem dX8_sheet_9 : decode cX8_sheet 9 = .ok (.ifCond .eq 21, 3) := by decide +kernel
theorem dX8_sheet_12 : decode cX8_sheet 12 = .ok (.iload_n 2, 1) := by decide +kernel
theorem dX8_sheet_13 : decode cX8_sheet 13 = .ok (.i2l, 1) := by decide +kernel
theorem dX8_sheet_14 : decode cX8_sheet 14 = .ok (.lconst 0, 1) := by decide +kernel
theorem dX8_sheet_15 : decode cX8_sheet 15 = .ok (.ldc2_w 189, 3) := by decide +kernel
theorem dX8_sheet_18 : decode cX8_sheet 18 = .ok (.invokestatic 74, 3) := by decide +kernel
theorem dX8_sheet_21 : decode cX8_sheet 21 = .ok (.ifCond .eq 9, 3) := by decide +kernel
theorem dX8_sheet_24 : decode cX8_sheet 24 = .ok (.iload_n 3, 1) := by decide +kernel
theorem dX8_sheet_25 : decode cX8_sheet 25 = .ok (.bipush 40, 2) := by decide +kernel
theorem dX8_sheet_27 : decode cX8_sheet 27 = .ok (.if_icmp .le 5, 3) := by decide +kernel
theorem dX8_sheet_30 : decode cX8_sheet 30 = .ok (.iconst (-1), 1) := by decide +kernel
theorem dX8_sheet_31 : decode cX8_sheet 31 = .ok (.ireturn, 1) := by decide +kernel
theorem dX8_sheet_32 : decode cX8_sheet 32 = .ok (.iload_n 3, 1) := by decide +kernel
theorem dX8_sheet_33 : decode cX8_sheet 33 = .ok (.ifCond .ge 6, 3) := by decide +kernel
theorem dX8_sheet_36 : decode cX8_sheet 36 = .ok (.bipush (-14), 2) := by decide +kernel
theorem dX8_sheet_38 : decode cX8_sheet 38 = .ok (.ireturn, 1) := by decide +kernel
theorem dX8_sheet_39 : decode cX8_sheet 39 = .ok (.aload_n 0, 1) := by decide +kernel
theorem dX8_sheet_40 : decode cX8_sheet 40 = .ok (.getfield 63, 3) := by decide +kernel
theorem dX8_sheet_43 : decode cX8_sheet 43 = .ok (.iload_n 1, 1) := by decide +kernel
theorem dX8_sheet_44 : decode cX8_sheet 44 = .ok (.iload_n 2, 1) := by decide +kernel
theorem dX8_sheet_45 : decode cX8_sheet 45 = .ok (.iastore, 1) := by decide +kernel
theorem dX8_sheet_46 : decode cX8_sheet 46 = .ok (.aload_n 0, 1) := by decide +kernel
theorem dX8_sheet_47 : decode cX8_sheet 47 = .ok (.getfield 66, 3) := by decide +kernel
theorem dX8_sheet_50 : decode cX8_sheet 50 = .ok (.iload_n 1, 1) := by decide +kernel
theorem dX8_sheet_51 : decode cX8_sheet 51 = .ok (.iload_n 3, 1) := by decide +kernel
theorem dX8_sheet_52 : decode cX8_sheet 52 = .ok (.iastore, 1) := by decide +kernel
theorem dX8_sheet_53 : decode cX8_sheet 53 = .ok (.iconst 0, 1) := by decide +kernel
theorem dX8_sheet_54 : decode cX8_sheet 54 = .ok (.istore 4, 2) := by decide +kernel
theorem dX8_sheet_56 : decode cX8_sheet 56 = .ok (.iload 4, 2) := by decide +kernel
theorem dX8_sheet_58 : decode cX8_sheet 58 = .ok (.bipush 40, 2) := by decide +kernel
theorem dX8_sheet_60 : decode cX8_sheet 60 = .ok (.if_icmp .ge 22, 3) := by decide +kernel
theorem dX8_sheet_63 : decode cX8_sheet 63 = .ok (.aload_n 0, 1) := by decide +kernel
theorem dX8_sheet_64 : decode cX8_sheet 64 = .ok (.getfield 69, 3) := by decide +kernel
theorem dX8_sheet_67 : decode cX8_sheet 67 = .ok (.bipush 40, 2) := by decide +kernel
theorem dX8_sheet_69 : decode cX8_sheet 69 = .ok (.iload_n 1, 1) := by decide +kernel
theorem dX8_sheet_70 : decode cX8_sheet 70 = .ok (.imul, 1) := by decide +kernel
theorem dX8_sheet_71 : decode cX8_sheet 71 = .ok (.iload 4, 2) := by decide +kernel
theorem dX8_sheet_73 : decode cX8_sheet 73 = .ok (.iadd, 1) := by decide +kernel
theorem dX8_sheet_74 : decode cX8_sheet 74 = .ok (.iconst 0, 1) := by decide +kernel
theorem dX8_sheet_75 : decode cX8_sheet 75 = .ok (.iastore, 1) := by decide +kernel
theorem dX8_sheet_76 : decode cX8_sheet 76 = .ok (.iinc 4 1, 3) := by decide +kernel
theorem dX8_sheet_79 : decode cX8_sheet 79 = .ok (.goto (-23), 3) := by decide +kernel
theorem dX8_sheet_82 : decode cX8_sheet 82 = .ok (.iconst 1, 1) := by decide +kernel
theorem dX8_sheet_83 : decode cX8_sheet 83 = .ok (.ireturn, 1) := by decide +kernel
theorem dX8_lay_0 : decode cX8_lay 0 = .ok (.iload_n 1, 1) := by decide +kernel
theorem dX8_lay_1 : decode cX8_lay 1 = .ok (.i2l, 1) := by decide +kernel
theorem dX8_lay_2 : decode cX8_lay 2 = .ok (.lconst 0, 1) := by decide +kernel
theorem dX8_lay_3 : decode cX8_lay 3 = .ok (.ldc2_w 197, 3) := by decide +kernel
theorem dX8_lay_6 : decode cX8_lay 6 = .ok (.invokestatic 74, 3) := by decide +kernel
theorem dX8_lay_9 : decode cX8_lay 9 = .ok (.ifCond .ne 5, 3) := by decide +kernel
theorem dX8_lay_12 : decode cX8_lay 12 = .ok (.iconst (-1), 1) := by decide +kernel
theorem dX8_lay_13 : decode cX8_lay 13 = .ok (.ireturn, 1) := by decide +kernel
theorem dX8_lay_14 : decode cX8_lay 14 = .ok (.aload_n 0, 1) := by decide +kernel
theorem dX8_lay_15 : decode cX8_lay 15 = .ok (.getfield 63, 3) := by decide +kernel
theorem dX8_lay_18 : decode cX8_lay 18 = .ok (.iload_n 1, 1) := by decide +kernel
theorem dX8_lay_19 : decode cX8_lay 19 = .ok (.iaload, 1) := by decide +kernel
theorem dX8_lay_20 : decode cX8_lay 20 = .ok (.bipush (-4), 2) := by decide +kernel
theorem dX8_lay_22 : decode cX8_lay 22 = .ok (.if_icmp .ne 6, 3) := by decide +kernel
theorem dX8_lay_25 : decode cX8_lay 25 = .ok (.bipush (-11), 2) := by decide +kernel
theorem dX8_lay_27 : decode cX8_lay 27 = .ok (.ireturn, 1) := by decide +kernel
theorem dX8_lay_28 : decode cX8_lay 28 = .ok (.iload_n 2, 1) := by decide +kernel
theorem dX8_lay_29 : decode cX8_lay 29 = .ok (.i2l, 1) := by decide +kernel
theorem dX8_lay_30 : decode cX8_lay 30 = .ok (.lconst 0, 1) := by decide +kernel
theorem dX8_lay_31 : decode cX8_lay 31 = .ok (.aload_n 0, 1) := by decide +kernel
theorem dX8_lay_32 : decode cX8_lay 32 = .ok (.getfield 66, 3) := by decide +kernel
theorem dX8_lay_35 : decode cX8_lay 35 = .ok (.iload_n 1, 1) := by decide +kernel
theorem dX8_lay_36 : decode cX8_lay 36 = .ok (.iaload, 1) := by decide +kernel
theorem dX8_lay_37 : decode cX8_lay 37 = .ok (.iconst 1, 1) := by decide +kernel
theorem dX8_lay_38 : decode cX8_lay 38 = .ok (.isub, 1) := by decide +kernel
theorem dX8_lay_39 : decode cX8_lay 39 = .ok (.i2l, 1) := by decide +kernel
theorem dX8_lay_40 : decode cX8_lay 40 = .ok (.invokestatic 74, 3) := by decide +kernel
theorem dX8_lay_43 : decode cX8_lay 43 = .ok (.ifCond .ne 6, 3) := by decide +kernel
theorem dX8_lay_46 : decode cX8_lay 46 = .ok (.bipush (-12), 2) := by decide +kernel
theorem dX8_lay_48 : decode cX8_lay 48 = .ok (.ireturn, 1) := by decide +kernel
theorem dX8_lay_49 : decode cX8_lay 49 = .ok (.aload_n 0, 1) := by decide +kernel
theorem dX8_lay_50 : decode cX8_lay 50 = .ok (.getfield 69, 3) := by decide +kernel
theorem dX8_lay_53 : decode cX8_lay 53 = .ok (.bipush 40, 2) := by decide +kernel
