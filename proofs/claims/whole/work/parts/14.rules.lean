theorem d_M_leave_0 : decode prog_7_method_49_code 0 = .ok (.aload_n 0, 1) := by decide +kernel
theorem d_M_leave_1 : decode prog_7_method_49_code 1 = .ok (.getfield 222, 3) := by decide +kernel
theorem d_M_leave_4 : decode prog_7_method_49_code 4 = .ok (.iconst 1, 1) := by decide +kernel
theorem d_M_leave_5 : decode prog_7_method_49_code 5 = .ok (.if_icmp .ne 4, 3) := by decide +kernel
theorem d_M_leave_8 : decode prog_7_method_49_code 8 = .ok (.return_, 1) := by decide +kernel
theorem d_M_leave_9 : decode prog_7_method_49_code 9 = .ok (.aload_n 0, 1) := by decide +kernel
theorem d_M_leave_10 : decode prog_7_method_49_code 10 = .ok (.dup, 1) := by decide +kernel
theorem d_M_leave_11 : decode prog_7_method_49_code 11 = .ok (.getfield 222, 3) := by decide +kernel
theorem d_M_leave_14 : decode prog_7_method_49_code 14 = .ok (.iconst 1, 1) := by decide +kernel
theorem d_M_leave_15 : decode prog_7_method_49_code 15 = .ok (.isub, 1) := by decide +kernel
theorem d_M_leave_16 : decode prog_7_method_49_code 16 = .ok (.putfield 222, 3) := by decide +kernel
theorem d_M_leave_19 : decode prog_7_method_49_code 19 = .ok (.aload_n 0, 1) := by decide +kernel
theorem d_M_leave_20 : decode prog_7_method_49_code 20 = .ok (.getfield 103, 3) := by decide +kernel
theorem d_M_leave_23 : decode prog_7_method_49_code 23 = .ok (.bipush 6, 2) := by decide +kernel
theorem d_M_leave_25 : decode prog_7_method_49_code 25 = .ok (.aload_n 0, 1) := by decide +kernel
theorem d_M_leave_26 : decode prog_7_method_49_code 26 = .ok (.getfield 222, 3) := by decide +kernel
theorem d_M_leave_29 : decode prog_7_method_49_code 29 = .ok (.iconst 1, 1) := by decide +kernel
theorem d_M_leave_30 : decode prog_7_method_49_code 30 = .ok (.isub, 1) := by decide +kernel
theorem d_M_leave_31 : decode prog_7_method_49_code 31 = .ok (.imul, 1) := by decide +kernel
theorem d_M_leave_32 : decode prog_7_method_49_code 32 = .ok (.aload_n 0, 1) := by decide +kernel
theorem d_M_leave_33 : decode prog_7_method_49_code 33 = .ok (.getfield 100, 3) := by decide +kernel
theorem d_M_leave_36 : decode prog_7_method_49_code 36 = .ok (.aload_n 0, 1) := by decide +kernel
theorem d_M_leave_37 : decode prog_7_method_49_code 37 = .ok (.getfield 222, 3) := by decide +kernel
theorem d_M_leave_40 : decode prog_7_method_49_code 40 = .ok (.iaload, 1) := by decide +kernel
theorem d_M_leave_41 : decode prog_7_method_49_code 41 = .ok (.iadd, 1) := by decide +kernel
theorem d_M_leave_42 : decode prog_7_method_49_code 42 = .ok (.aload_n 0, 1) := by decide +kernel
theorem d_M_leave_43 : decode prog_7_method_49_code 43 = .ok (.getfield 103, 3) := by decide +kernel
theorem d_M_leave_46 : decode prog_7_method_49_code 46 = .ok (.bipush 6, 2) := by decide +kernel
theorem d_M_leave_48 : decode prog_7_method_49_code 48 = .ok (.aload_n 0, 1) := by decide +kernel
theorem d_M_leave_49 : decode prog_7_method_49_code 49 = .ok (.getfield 222, 3) := by decide +kernel
theorem d_M_leave_52 : decode prog_7_method_49_code 52 = .ok (.imul, 1) := by decide +kernel
theorem d_M_leave_53 : decode prog_7_method_49_code 53 = .ok (.iconst 5, 1) := by decide +kernel
theorem d_M_leave_54 : decode prog_7_method_49_code 54 = .ok (.iadd, 1) := by decide +kernel
theorem d_M_leave_55 : decode prog_7_method_49_code 55 = .ok (.iaload, 1) := by decide +kernel
theorem d_M_leave_56 : decode prog_7_method_49_code 56 = .ok (.iastore, 1) := by decide +kernel
theorem d_M_leave_57 : decode prog_7_method_49_code 57 = .ok (.return_, 1) := by decide +kernel
theorem d_M_isIn_0 : decode prog_7_method_50_code 0 = .ok (.iload_n 1, 1) := by decide +kernel
theorem d_M_isIn_1 : decode prog_7_method_50_code 1 = .ok (.ifCond .lt 17, 3) := by decide +kernel
theorem d_M_isIn_4 : decode prog_7_method_50_code 4 = .ok (.iload_n 2, 1) := by decide +kernel
theorem d_M_isIn_5 : decode prog_7_method_50_code 5 = .ok (.aload_n 0, 1) := by decide +kernel
theorem d_M_isIn_6 : decode prog_7_method_50_code 6 = .ok (.getfield 82, 3) := by decide +kernel
theorem d_M_isIn_9 : decode prog_7_method_50_code 9 = .ok (.iload_n 1, 1) := by decide +kernel
theorem d_M_isIn_10 : decode prog_7_method_50_code 10 = .ok (.iaload, 1) := by decide +kernel
theorem d_M_isIn_11 : decode prog_7_method_50_code 11 = .ok (.ishr, 1) := by decide +kernel
theorem d_M_isIn_12 : decode prog_7_method_50_code 12 = .ok (.iconst 1, 1) := by decide +kernel
theorem d_M_isIn_13 : decode prog_7_method_50_code 13 = .ok (.iand, 1) := by decide +kernel
theorem d_M_isIn_14 : decode prog_7_method_50_code 14 = .ok (.iconst 1, 1) := by decide +kernel
theorem d_M_isIn_15 : decode prog_7_method_50_code 15 = .ok (.if_icmp .ne 7, 3) := by decide +kernel
theorem d_M_isIn_18 : decode prog_7_method_50_code 18 = .ok (.iconst 1, 1) := by decide +kernel
theorem d_M_isIn_19 : decode prog_7_method_50_code 19 = .ok (.goto 4, 3) := by decide +kernel
theorem d_M_isIn_22 : decode prog_7_method_50_code 22 = .ok (.iconst 0, 1) := by decide +kernel
theorem d_M_isIn_23 : decode prog_7_method_50_code 23 = .ok (.ireturn, 1) := by decide +kernel
theorem d_M_holds_0 : decode prog_7_method_51_code 0 = .ok (.iconst 1, 1) := by decide +kernel
theorem d_M_holds_1 : decode prog_7_method_51_code 1 = .ok (.istore_n 1, 1) := by decide +kernel
theorem d_M_holds_2 : decode prog_7_method_51_code 2 = .ok (.aload_n 0, 1) := by decide +kernel
theorem d_M_holds_3 : decode prog_7_method_51_code 3 = .ok (.getfield 222, 3) := by decide +kernel
theorem d_M_holds_6 : decode prog_7_method_51_code 6 = .ok (.iconst 1, 1) := by decide +kernel
theorem d_M_holds_7 : decode prog_7_method_51_code 7 = .ok (.isub, 1) := by decide +kernel
theorem d_M_holds_8 : decode prog_7_method_51_code 8 = .ok (.istore_n 2, 1) := by decide +kernel
theorem d_M_holds_9 : decode prog_7_method_51_code 9 = .ok (.iconst 0, 1) := by decide +kernel
theorem d_M_holds_10 : decode prog_7_method_51_code 10 = .ok (.istore_n 3, 1) := by decide +kernel
theorem d_M_holds_11 : decode prog_7_method_51_code 11 = .ok (.iload_n 3, 1) := by decide +kernel
theorem d_M_holds_12 : decode prog_7_method_51_code 12 = .ok (.bipush 6, 2) := by decide +kernel
theorem d_M_holds_14 : decode prog_7_method_51_code 14 = .ok (.if_icmp .ge 99, 3) := by decide +kernel
theorem d_M_holds_17 : decode prog_7_method_51_code 17 = .ok (.aload_n 0, 1) := by decide +kernel
theorem d_M_holds_18 : decode prog_7_method_51_code 18 = .ok (.getfield 103, 3) := by decide +kernel
theorem d_M_holds_21 : decode prog_7_method_51_code 21 = .ok (.bipush 6, 2) := by decide +kernel
theorem d_M_holds_23 : decode prog_7_method_51_code 23 = .ok (.iload_n 2, 1) := by decide +kernel
theorem d_M_holds_24 : decode prog_7_method_51_code 24 = .ok (.imul, 1) := by decide +kernel
theorem d_M_holds_25 : decode prog_7_method_51_code 25 = .ok (.iload_n 3, 1) := by decide +kernel
theorem d_M_holds_26 : decode prog_7_method_51_code 26 = .ok (.iadd, 1) := by decide +kernel
theorem d_M_holds_27 : decode prog_7_method_51_code 27 = .ok (.iaload, 1) := by decide +kernel
theorem d_M_holds_28 : decode prog_7_method_51_code 28 = .ok (.istore 4, 2) := by decide +kernel
theorem d_M_holds_30 : decode prog_7_method_51_code 30 = .ok (.iload_n 1, 1) := by decide +kernel
theorem d_M_holds_31 : decode prog_7_method_51_code 31 = .ok (.ifCond .eq 37, 3) := by decide +kernel
theorem d_M_holds_34 : decode prog_7_method_51_code 34 = .ok (.aload_n 0, 1) := by decide +kernel
theorem d_M_holds_35 : decode prog_7_method_51_code 35 = .ok (.iload 4, 2) := by decide +kernel
theorem d_M_holds_37 : decode prog_7_method_51_code 37 = .ok (.aload_n 0, 1) := by decide +kernel
theorem d_M_holds_38 : decode prog_7_method_51_code 38 = .ok (.getfield 49, 3) := by decide +kernel
theorem d_M_holds_41 : decode prog_7_method_51_code 41 = .ok (.aload_n 0, 1) := by decide +kernel
theorem d_M_holds_42 : decode prog_7_method_51_code 42 = .ok (.getfield 94, 3) := by decide +kernel
theorem d_M_holds_45 : decode prog_7_method_51_code 45 = .ok (.iload_n 2, 1) := by decide +kernel
theorem d_M_holds_46 : decode prog_7_method_51_code 46 = .ok (.iaload, 1) := by decide +kernel
theorem d_M_holds_47 : decode prog_7_method_51_code 47 = .ok (.aload_n 0, 1) := by decide +kernel
theorem d_M_holds_48 : decode prog_7_method_51_code 48 = .ok (.getfield 97, 3) := by decide +kernel
theorem d_M_holds_51 : decode prog_7_method_51_code 51 = .ok (.iload_n 2, 1) := by decide +kernel
theorem d_M_holds_52 : decode prog_7_method_51_code 52 = .ok (.iaload, 1) := by decide +kernel
theorem d_M_holds_53 : decode prog_7_method_51_code 53 = .ok (.iload_n 3, 1) := by decide +kernel
theorem d_M_holds_54 : decode prog_7_method_51_code 54 = .ok (.invokestatic 166, 3) := by decide +kernel
theorem d_M_holds_57 : decode prog_7_method_51_code 57 = .ok (.iaload, 1) := by decide +kernel
theorem d_M_holds_58 : decode prog_7_method_51_code 58 = .ok (.invokevirtual 241, 3) := by decide +kernel
theorem d_M_holds_61 : decode prog_7_method_51_code 61 = .ok (.ifCond .eq 7, 3) := by decide +kernel
theorem d_M_holds_64 : decode prog_7_method_51_code 64 = .ok (.iconst 1, 1) := by decide +kernel
theorem d_M_holds_65 : decode prog_7_method_51_code 65 = .ok (.goto 4, 3) := by decide +kernel
theorem d_M_holds_68 : decode prog_7_method_51_code 68 = .ok (.iconst 0, 1) := by decide +kernel
theorem d_M_holds_69 : decode prog_7_method_51_code 69 = .ok (.istore_n 1, 1) := by decide +kernel
theorem d_M_holds_70 : decode prog_7_method_51_code 70 = .ok (.aload_n 0, 1) := by decide +kernel
theorem d_M_holds_71 : decode prog_7_method_51_code 71 = .ok (.getfield 106, 3) := by decide +kernel
theorem d_M_holds_74 : decode prog_7_method_51_code 74 = .ok (.bipush 6, 2) := by decide +kernel
theorem d_M_holds_76 : decode prog_7_method_51_code 76 = .ok (.aload_n 0, 1) := by decide +kernel
theorem d_M_holds_77 : decode prog_7_method_51_code 77 = .ok (.getfield 94, 3) := by decide +kernel
theorem d_M_holds_80 : decode prog_7_method_51_code 80 = .ok (.iload_n 2, 1) := by decide +kernel
theorem d_M_holds_81 : decode prog_7_method_51_code 81 = .ok (.iaload, 1) := by decide +kernel
theorem d_M_holds_82 : decode prog_7_method_51_code 82 = .ok (.imul, 1) := by decide +kernel
theorem d_M_holds_83 : decode prog_7_method_51_code 83 = .ok (.iload_n 3, 1) := by decide +kernel
theorem d_M_holds_84 : decode prog_7_method_51_code 84 = .ok (.iadd, 1) := by decide +kernel
theorem d_M_holds_85 : decode prog_7_method_51_code 85 = .ok (.dup2, 1) := by decide +kernel
theorem d_M_holds_86 : decode prog_7_method_51_code 86 = .ok (.iaload, 1) := by decide +kernel
theorem d_M_holds_87 : decode prog_7_method_51_code 87 = .ok (.iload 4, 2) := by decide +kernel
theorem d_M_holds_89 : decode prog_7_method_51_code 89 = .ok (.ifCond .ge 7, 3) := by decide +kernel
theorem d_M_holds_92 : decode prog_7_method_51_code 92 = .ok (.iconst 0, 1) := by decide +kernel
theorem d_M_holds_93 : decode prog_7_method_51_code 93 = .ok (.goto 12, 3) := by decide +kernel
theorem d_M_holds_96 : decode prog_7_method_51_code 96 = .ok (.iconst 1, 1) := by decide +kernel
theorem d_M_holds_97 : decode prog_7_method_51_code 97 = .ok (.aload_n 0, 1) := by decide +kernel
theorem d_M_holds_98 : decode prog_7_method_51_code 98 = .ok (.getfield 82, 3) := by decide +kernel
theorem d_M_holds_101 : decode prog_7_method_51_code 101 = .ok (.iload 4, 2) := by decide +kernel
theorem d_M_holds_103 : decode prog_7_method_51_code 103 = .ok (.iaload, 1) := by decide +kernel
theorem d_M_holds_104 : decode prog_7_method_51_code 104 = .ok (.ishl, 1) := by decide +kernel
theorem d_M_holds_105 : decode prog_7_method_51_code 105 = .ok (.ior, 1) := by decide +kernel
theorem d_M_holds_106 : decode prog_7_method_51_code 106 = .ok (.iastore, 1) := by decide +kernel
theorem d_M_holds_107 : decode prog_7_method_51_code 107 = .ok (.iinc 3 1, 3) := by decide +kernel
theorem d_M_holds_110 : decode prog_7_method_51_code 110 = .ok (.goto (-99), 3) := by decide +kernel
theorem d_M_holds_113 : decode prog_7_method_51_code 113 = .ok (.iconst 0, 1) := by decide +kernel
theorem d_M_holds_114 : decode prog_7_method_51_code 114 = .ok (.istore_n 3, 1) := by decide +kernel
theorem d_M_holds_115 : decode prog_7_method_51_code 115 = .ok (.iload_n 3, 1) := by decide +kernel
theorem d_M_holds_116 : decode prog_7_method_51_code 116 = .ok (.iconst 4, 1) := by decide +kernel
theorem d_M_holds_117 : decode prog_7_method_51_code 117 = .ok (.if_icmp .ge 38, 3) := by decide +kernel
theorem d_M_holds_120 : decode prog_7_method_51_code 120 = .ok (.iload_n 1, 1) := by decide +kernel
theorem d_M_holds_121 : decode prog_7_method_51_code 121 = .ok (.ifCond .eq 26, 3) := by decide +kernel
theorem d_M_holds_124 : decode prog_7_method_51_code 124 = .ok (.aload_n 0, 1) := by decide +kernel
theorem d_M_holds_125 : decode prog_7_method_51_code 125 = .ok (.aload_n 0, 1) := by decide +kernel
theorem d_M_holds_126 : decode prog_7_method_51_code 126 = .ok (.getfield 91, 3) := by decide +kernel
theorem d_M_holds_129 : decode prog_7_method_51_code 129 = .ok (.iload_n 3, 1) := by decide +kernel
theorem d_M_holds_130 : decode prog_7_method_51_code 130 = .ok (.iaload, 1) := by decide +kernel
theorem d_M_holds_131 : decode prog_7_method_51_code 131 = .ok (.aload_n 0, 1) := by decide +kernel
theorem d_M_holds_132 : decode prog_7_method_51_code 132 = .ok (.getfield 67, 3) := by decide +kernel
theorem d_M_holds_135 : decode prog_7_method_51_code 135 = .ok (.iload_n 3, 1) := by decide +kernel
theorem d_M_holds_136 : decode prog_7_method_51_code 136 = .ok (.iaload, 1) := by decide +kernel
theorem d_M_holds_137 : decode prog_7_method_51_code 137 = .ok (.invokevirtual 241, 3) := by decide +kernel
theorem d_M_holds_140 : decode prog_7_method_51_code 140 = .ok (.ifCond .eq 7, 3) := by decide +kernel
theorem d_M_holds_143 : decode prog_7_method_51_code 143 = .ok (.iconst 1, 1) := by decide +kernel
theorem d_M_holds_144 : decode prog_7_method_51_code 144 = .ok (.goto 4, 3) := by decide +kernel
theorem d_M_holds_147 : decode prog_7_method_51_code 147 = .ok (.iconst 0, 1) := by decide +kernel
theorem d_M_holds_148 : decode prog_7_method_51_code 148 = .ok (.istore_n 1, 1) := by decide +kernel
theorem d_M_holds_149 : decode prog_7_method_51_code 149 = .ok (.iinc 3 1, 3) := by decide +kernel
theorem d_M_holds_152 : decode prog_7_method_51_code 152 = .ok (.goto (-37), 3) := by decide +kernel
theorem d_M_holds_155 : decode prog_7_method_51_code 155 = .ok (.iconst 0, 1) := by decide +kernel
theorem d_M_holds_156 : decode prog_7_method_51_code 156 = .ok (.istore_n 3, 1) := by decide +kernel
theorem d_M_holds_157 : decode prog_7_method_51_code 157 = .ok (.iload_n 3, 1) := by decide +kernel
theorem d_M_holds_158 : decode prog_7_method_51_code 158 = .ok (.aload_n 0, 1) := by decide +kernel
theorem d_M_holds_159 : decode prog_7_method_51_code 159 = .ok (.getfield 219, 3) := by decide +kernel
theorem d_M_holds_162 : decode prog_7_method_51_code 162 = .ok (.if_icmp .ge 107, 3) := by decide +kernel
theorem d_M_holds_165 : decode prog_7_method_51_code 165 = .ok (.iload_n 1, 1) := by decide +kernel
theorem d_M_holds_166 : decode prog_7_method_51_code 166 = .ok (.ifCond .eq 31, 3) := by decide +kernel
theorem d_M_holds_169 : decode prog_7_method_51_code 169 = .ok (.aload_n 0, 1) := by decide +kernel
theorem d_M_holds_170 : decode prog_7_method_51_code 170 = .ok (.aload_n 0, 1) := by decide +kernel
theorem d_M_holds_171 : decode prog_7_method_51_code 171 = .ok (.getfield 88, 3) := by decide +kernel
theorem d_M_holds_174 : decode prog_7_method_51_code 174 = .ok (.iload_n 3, 1) := by decide +kernel
theorem d_M_holds_175 : decode prog_7_method_51_code 175 = .ok (.iaload, 1) := by decide +kernel
theorem d_M_holds_176 : decode prog_7_method_51_code 176 = .ok (.aload_n 0, 1) := by decide +kernel
theorem d_M_holds_177 : decode prog_7_method_51_code 177 = .ok (.getfield 61, 3) := by decide +kernel
theorem d_M_holds_180 : decode prog_7_method_51_code 180 = .ok (.aload_n 0, 1) := by decide +kernel
theorem d_M_holds_181 : decode prog_7_method_51_code 181 = .ok (.getfield 82, 3) := by decide +kernel
theorem d_M_holds_184 : decode prog_7_method_51_code 184 = .ok (.iload_n 3, 1) := by decide +kernel
theorem d_M_holds_185 : decode prog_7_method_51_code 185 = .ok (.iaload, 1) := by decide +kernel
theorem d_M_holds_186 : decode prog_7_method_51_code 186 = .ok (.iaload, 1) := by decide +kernel
theorem d_M_holds_187 : decode prog_7_method_51_code 187 = .ok (.invokevirtual 241, 3) := by decide +kernel
theorem d_M_holds_190 : decode prog_7_method_51_code 190 = .ok (.ifCond .eq 7, 3) := by decide +kernel
theorem d_M_holds_193 : decode prog_7_method_51_code 193 = .ok (.iconst 1, 1) := by decide +kernel
theorem d_M_holds_194 : decode prog_7_method_51_code 194 = .ok (.goto 4, 3) := by decide +kernel
theorem d_M_holds_197 : decode prog_7_method_51_code 197 = .ok (.iconst 0, 1) := by decide +kernel
theorem d_M_holds_198 : decode prog_7_method_51_code 198 = .ok (.istore_n 1, 1) := by decide +kernel
theorem d_M_holds_199 : decode prog_7_method_51_code 199 = .ok (.iconst 0, 1) := by decide +kernel
theorem d_M_holds_200 : decode prog_7_method_51_code 200 = .ok (.istore 4, 2) := by decide +kernel
theorem d_M_holds_202 : decode prog_7_method_51_code 202 = .ok (.iload 4, 2) := by decide +kernel
theorem d_M_holds_204 : decode prog_7_method_51_code 204 = .ok (.aload_n 0, 1) := by decide +kernel
theorem d_M_holds_205 : decode prog_7_method_51_code 205 = .ok (.getfield 113, 3) := by decide +kernel
theorem d_M_holds_208 : decode prog_7_method_51_code 208 = .ok (.if_icmp .ge 55, 3) := by decide +kernel
theorem d_M_holds_211 : decode prog_7_method_51_code 211 = .ok (.iload_n 1, 1) := by decide +kernel
theorem d_M_holds_212 : decode prog_7_method_51_code 212 = .ok (.ifCond .eq 43, 3) := by decide +kernel
theorem d_M_holds_215 : decode prog_7_method_51_code 215 = .ok (.aload_n 0, 1) := by decide +kernel
theorem d_M_holds_216 : decode prog_7_method_51_code 216 = .ok (.aload_n 0, 1) := by decide +kernel
theorem d_M_holds_217 : decode prog_7_method_51_code 217 = .ok (.getfield 85, 3) := by decide +kernel
theorem d_M_holds_220 : decode prog_7_method_51_code 220 = .ok (.bipush 8, 2) := by decide +kernel
theorem d_M_holds_222 : decode prog_7_method_51_code 222 = .ok (.iload_n 3, 1) := by decide +kernel
theorem d_M_holds_223 : decode prog_7_method_51_code 223 = .ok (.imul, 1) := by decide +kernel
theorem d_M_holds_224 : decode prog_7_method_51_code 224 = .ok (.iload 4, 2) := by decide +kernel
theorem d_M_holds_226 : decode prog_7_method_51_code 226 = .ok (.iadd, 1) := by decide +kernel
theorem d_M_holds_227 : decode prog_7_method_51_code 227 = .ok (.iaload, 1) := by decide +kernel
theorem d_M_holds_228 : decode prog_7_method_51_code 228 = .ok (.aload_n 0, 1) := by decide +kernel
theorem d_M_holds_229 : decode prog_7_method_51_code 229 = .ok (.getfield 55, 3) := by decide +kernel
theorem d_M_holds_232 : decode prog_7_method_51_code 232 = .ok (.bipush 8, 2) := by decide +kernel
theorem d_M_holds_234 : decode prog_7_method_51_code 234 = .ok (.aload_n 0, 1) := by decide +kernel
theorem d_M_holds_235 : decode prog_7_method_51_code 235 = .ok (.getfield 82, 3) := by decide +kernel
theorem d_M_holds_238 : decode prog_7_method_51_code 238 = .ok (.iload_n 3, 1) := by decide +kernel
theorem d_M_holds_239 : decode prog_7_method_51_code 239 = .ok (.iaload, 1) := by decide +kernel
theorem d_M_holds_240 : decode prog_7_method_51_code 240 = .ok (.imul, 1) := by decide +kernel
theorem d_M_holds_241 : decode prog_7_method_51_code 241 = .ok (.iload 4, 2) := by decide +kernel
theorem d_M_holds_243 : decode prog_7_method_51_code 243 = .ok (.iadd, 1) := by decide +kernel
theorem d_M_holds_244 : decode prog_7_method_51_code 244 = .ok (.iaload, 1) := by decide +kernel
theorem d_M_holds_245 : decode prog_7_method_51_code 245 = .ok (.invokevirtual 241, 3) := by decide +kernel
theorem d_M_holds_248 : decode prog_7_method_51_code 248 = .ok (.ifCond .eq 7, 3) := by decide +kernel
theorem d_M_holds_251 : decode prog_7_method_51_code 251 = .ok (.iconst 1, 1) := by decide +kernel
theorem d_M_holds_252 : decode prog_7_method_51_code 252 = .ok (.goto 4, 3) := by decide +kernel
theorem d_M_holds_255 : decode prog_7_method_51_code 255 = .ok (.iconst 0, 1) := by decide +kernel
theorem d_M_holds_256 : decode prog_7_method_51_code 256 = .ok (.istore_n 1, 1) := by decide +kernel
theorem d_M_holds_257 : decode prog_7_method_51_code 257 = .ok (.iinc 4 1, 3) := by decide +kernel
theorem d_M_holds_260 : decode prog_7_method_51_code 260 = .ok (.goto (-58), 3) := by decide +kernel
theorem d_M_holds_263 : decode prog_7_method_51_code 263 = .ok (.iinc 3 1, 3) := by decide +kernel
theorem d_M_holds_266 : decode prog_7_method_51_code 266 = .ok (.goto (-109), 3) := by decide +kernel
theorem d_M_holds_269 : decode prog_7_method_51_code 269 = .ok (.iload_n 1, 1) := by decide +kernel
theorem d_M_holds_270 : decode prog_7_method_51_code 270 = .ok (.ireturn, 1) := by decide +kernel
theorem d_M_run_0 : decode prog_7_method_52_code 0 = .ok (.iload_n 2, 1) := by decide +kernel
theorem d_M_run_1 : decode prog_7_method_52_code 1 = .ok (.ifCond .lt 10, 3) := by decide +kernel
theorem d_M_run_4 : decode prog_7_method_52_code 4 = .ok (.iload_n 2, 1) := by decide +kernel
theorem d_M_run_5 : decode prog_7_method_52_code 5 = .ok (.sipush 300, 3) := by decide +kernel
theorem d_M_run_8 : decode prog_7_method_52_code 8 = .ok (.if_icmp .le 6, 3) := by decide +kernel
theorem d_M_run_11 : decode prog_7_method_52_code 11 = .ok (.bipush (-2), 2) := by decide +kernel
theorem d_M_run_13 : decode prog_7_method_52_code 13 = .ok (.ireturn, 1) := by decide +kernel
theorem d_M_run_14 : decode prog_7_method_52_code 14 = .ok (.aload_n 0, 1) := by decide +kernel
theorem d_M_run_15 : decode prog_7_method_52_code 15 = .ok (.getfield 116, 3) := by decide +kernel
theorem d_M_run_18 : decode prog_7_method_52_code 18 = .ok (.ifCond .ne 6, 3) := by decide +kernel
theorem d_M_run_21 : decode prog_7_method_52_code 21 = .ok (.bipush (-3), 2) := by decide +kernel
theorem d_M_run_23 : decode prog_7_method_52_code 23 = .ok (.ireturn, 1) := by decide +kernel
theorem d_M_run_24 : decode prog_7_method_52_code 24 = .ok (.aload_n 0, 1) := by decide +kernel
theorem d_M_run_25 : decode prog_7_method_52_code 25 = .ok (.invokevirtual 213, 3) := by decide +kernel
theorem d_M_run_28 : decode prog_7_method_52_code 28 = .ok (.aload_n 0, 1) := by decide +kernel
theorem d_M_run_29 : decode prog_7_method_52_code 29 = .ok (.invokevirtual 131, 3) := by decide +kernel
theorem d_M_run_32 : decode prog_7_method_52_code 32 = .ok (.iconst 0, 1) := by decide +kernel
theorem d_M_run_33 : decode prog_7_method_52_code 33 = .ok (.istore_n 3, 1) := by decide +kernel
theorem d_M_run_34 : decode prog_7_method_52_code 34 = .ok (.iload_n 3, 1) := by decide +kernel
theorem d_M_run_35 : decode prog_7_method_52_code 35 = .ok (.iconst 4, 1) := by decide +kernel
theorem d_M_run_36 : decode prog_7_method_52_code 36 = .ok (.if_icmp .ge 16, 3) := by decide +kernel
theorem d_M_run_39 : decode prog_7_method_52_code 39 = .ok (.aload_n 0, 1) := by decide +kernel
theorem d_M_run_40 : decode prog_7_method_52_code 40 = .ok (.getfield 91, 3) := by decide +kernel
theorem d_M_run_43 : decode prog_7_method_52_code 43 = .ok (.iload_n 3, 1) := by decide +kernel
theorem d_M_run_44 : decode prog_7_method_52_code 44 = .ok (.iconst (-1), 1) := by decide +kernel
theorem d_M_run_45 : decode prog_7_method_52_code 45 = .ok (.iastore, 1) := by decide +kernel
theorem d_M_run_46 : decode prog_7_method_52_code 46 = .ok (.iinc 3 1, 3) := by decide +kernel
theorem d_M_run_49 : decode prog_7_method_52_code 49 = .ok (.goto (-15), 3) := by decide +kernel
theorem d_M_run_52 : decode prog_7_method_52_code 52 = .ok (.aload_n 0, 1) := by decide +kernel
theorem d_M_run_53 : decode prog_7_method_52_code 53 = .ok (.iconst 0, 1) := by decide +kernel
theorem d_M_run_54 : decode prog_7_method_52_code 54 = .ok (.iconst 0, 1) := by decide +kernel
theorem d_M_run_55 : decode prog_7_method_52_code 55 = .ok (.iconst 0, 1) := by decide +kernel
theorem d_M_run_56 : decode prog_7_method_52_code 56 = .ok (.invokevirtual 228, 3) := by decide +kernel
theorem d_M_run_59 : decode prog_7_method_52_code 59 = .ok (.iload_n 1, 1) := by decide +kernel
theorem d_M_run_60 : decode prog_7_method_52_code 60 = .ok (.istore_n 3, 1) := by decide +kernel
theorem d_M_run_61 : decode prog_7_method_52_code 61 = .ok (.iconst 1, 1) := by decide +kernel
theorem d_M_run_62 : decode prog_7_method_52_code 62 = .ok (.istore 4, 2) := by decide +kernel
theorem d_M_run_64 : decode prog_7_method_52_code 64 = .ok (.iconst 0, 1) := by decide +kernel
theorem d_M_run_65 : decode prog_7_method_52_code 65 = .ok (.istore 5, 2) := by decide +kernel
theorem d_M_run_67 : decode prog_7_method_52_code 67 = .ok (.iload 5, 2) := by decide +kernel
theorem d_M_run_69 : decode prog_7_method_52_code 69 = .ok (.iload_n 2, 1) := by decide +kernel
theorem d_M_run_70 : decode prog_7_method_52_code 70 = .ok (.if_icmp .ge 97, 3) := by decide +kernel
theorem d_M_run_73 : decode prog_7_method_52_code 73 = .ok (.iload_n 3, 1) := by decide +kernel
theorem d_M_run_74 : decode prog_7_method_52_code 74 = .ok (.ldc 244, 2) := by decide +kernel
theorem d_M_run_76 : decode prog_7_method_52_code 76 = .ok (.imul, 1) := by decide +kernel
theorem d_M_run_77 : decode prog_7_method_52_code 77 = .ok (.ldc 245, 2) := by decide +kernel
theorem d_M_run_79 : decode prog_7_method_52_code 79 = .ok (.iadd, 1) := by decide +kernel
theorem d_M_run_80 : decode prog_7_method_52_code 80 = .ok (.istore_n 3, 1) := by decide +kernel
theorem d_M_run_81 : decode prog_7_method_52_code 81 = .ok (.aload_n 0, 1) := by decide +kernel
theorem d_M_run_82 : decode prog_7_method_52_code 82 = .ok (.getfield 94, 3) := by decide +kernel
theorem d_M_run_85 : decode prog_7_method_52_code 85 = .ok (.aload_n 0, 1) := by decide +kernel
theorem d_M_run_86 : decode prog_7_method_52_code 86 = .ok (.getfield 222, 3) := by decide +kernel
theorem d_M_run_89 : decode prog_7_method_52_code 89 = .ok (.iconst 1, 1) := by decide +kernel
theorem d_M_run_90 : decode prog_7_method_52_code 90 = .ok (.isub, 1) := by decide +kernel
theorem d_M_run_91 : decode prog_7_method_52_code 91 = .ok (.iaload, 1) := by decide +kernel
theorem d_M_run_92 : decode prog_7_method_52_code 92 = .ok (.istore 6, 2) := by decide +kernel
theorem d_M_run_94 : decode prog_7_method_52_code 94 = .ok (.aload_n 0, 1) := by decide +kernel
theorem d_M_run_95 : decode prog_7_method_52_code 95 = .ok (.iload 6, 2) := by decide +kernel
theorem d_M_run_97 : decode prog_7_method_52_code 97 = .ok (.invokevirtual 246, 3) := by decide +kernel
theorem d_M_run_100 : decode prog_7_method_52_code 100 = .ok (.istore 7, 2) := by decide +kernel
theorem d_M_run_102 : decode prog_7_method_52_code 102 = .ok (.iload_n 3, 1) := by decide +kernel
theorem d_M_run_103 : decode prog_7_method_52_code 103 = .ok (.iconst 1, 1) := by decide +kernel
theorem d_M_run_104 : decode prog_7_method_52_code 104 = .ok (.iushr, 1) := by decide +kernel
theorem d_M_run_105 : decode prog_7_method_52_code 105 = .ok (.iload 7, 2) := by decide +kernel
theorem d_M_run_107 : decode prog_7_method_52_code 107 = .ok (.iconst 1, 1) := by decide +kernel
theorem d_M_run_108 : decode prog_7_method_52_code 108 = .ok (.iadd, 1) := by decide +kernel
theorem d_M_run_109 : decode prog_7_method_52_code 109 = .ok (.irem, 1) := by decide +kernel
theorem d_M_run_110 : decode prog_7_method_52_code 110 = .ok (.istore 8, 2) := by decide +kernel
theorem d_M_run_112 : decode prog_7_method_52_code 112 = .ok (.iload 8, 2) := by decide +kernel
theorem d_M_run_114 : decode prog_7_method_52_code 114 = .ok (.iload 7, 2) := by decide +kernel
theorem d_M_run_116 : decode prog_7_method_52_code 116 = .ok (.if_icmp .ge 18, 3) := by decide +kernel
theorem d_M_run_119 : decode prog_7_method_52_code 119 = .ok (.aload_n 0, 1) := by decide +kernel
theorem d_M_run_120 : decode prog_7_method_52_code 120 = .ok (.aload_n 0, 1) := by decide +kernel
theorem d_M_run_121 : decode prog_7_method_52_code 121 = .ok (.iload 6, 2) := by decide +kernel
theorem d_M_run_123 : decode prog_7_method_52_code 123 = .ok (.iload 8, 2) := by decide +kernel
theorem d_M_run_125 : decode prog_7_method_52_code 125 = .ok (.invokevirtual 250, 3) := by decide +kernel
theorem d_M_run_128 : decode prog_7_method_52_code 128 = .ok (.invokevirtual 253, 3) := by decide +kernel
theorem d_M_run_131 : decode prog_7_method_52_code 131 = .ok (.goto 7, 3) := by decide +kernel
theorem d_M_run_134 : decode prog_7_method_52_code 134 = .ok (.aload_n 0, 1) := by decide +kernel
theorem d_M_run_135 : decode prog_7_method_52_code 135 = .ok (.invokevirtual 256, 3) := by decide +kernel
theorem d_M_run_138 : decode prog_7_method_52_code 138 = .ok (.aload_n 0, 1) := by decide +kernel
theorem d_M_run_139 : decode prog_7_method_52_code 139 = .ok (.invokevirtual 259, 3) := by decide +kernel
theorem d_M_run_142 : decode prog_7_method_52_code 142 = .ok (.istore 9, 2) := by decide +kernel
theorem d_M_run_144 : decode prog_7_method_52_code 144 = .ok (.iload 4, 2) := by decide +kernel
theorem d_M_run_146 : decode prog_7_method_52_code 146 = .ok (.ifCond .eq 12, 3) := by decide +kernel
theorem d_M_run_149 : decode prog_7_method_52_code 149 = .ok (.iload 9, 2) := by decide +kernel
theorem d_M_run_151 : decode prog_7_method_52_code 151 = .ok (.ifCond .eq 7, 3) := by decide +kernel
theorem d_M_run_154 : decode prog_7_method_52_code 154 = .ok (.iconst 1, 1) := by decide +kernel
theorem d_M_run_155 : decode prog_7_method_52_code 155 = .ok (.goto 4, 3) := by decide +kernel
theorem d_M_run_158 : decode prog_7_method_52_code 158 = .ok (.iconst 0, 1) := by decide +kernel
theorem d_M_run_159 : decode prog_7_method_52_code 159 = .ok (.istore 4, 2) := by decide +kernel
theorem d_M_run_161 : decode prog_7_method_52_code 161 = .ok (.iinc 5 1, 3) := by decide +kernel
theorem d_M_run_164 : decode prog_7_method_52_code 164 = .ok (.goto (-97), 3) := by decide +kernel
theorem d_M_run_167 : decode prog_7_method_52_code 167 = .ok (.iload 4, 2) := by decide +kernel
theorem d_M_run_169 : decode prog_7_method_52_code 169 = .ok (.ifCond .eq 7, 3) := by decide +kernel
theorem d_M_run_172 : decode prog_7_method_52_code 172 = .ok (.iconst 1, 1) := by decide +kernel
theorem d_M_run_173 : decode prog_7_method_52_code 173 = .ok (.goto 4, 3) := by decide +kernel
theorem d_M_run_176 : decode prog_7_method_52_code 176 = .ok (.iconst 0, 1) := by decide +kernel
theorem d_M_run_177 : decode prog_7_method_52_code 177 = .ok (.ireturn, 1) := by decide +kernel
theorem d_M_met_0 : decode prog_7_method_53_code 0 = .ok (.aload_n 0, 1) := by decide +kernel
theorem d_M_met_1 : decode prog_7_method_53_code 1 = .ok (.iload_n 1, 1) := by decide +kernel
theorem d_M_met_2 : decode prog_7_method_53_code 2 = .ok (.invokevirtual 150, 3) := by decide +kernel
theorem d_M_met_5 : decode prog_7_method_53_code 5 = .ok (.ifCond .eq 24, 3) := by decide +kernel
theorem d_M_met_8 : decode prog_7_method_53_code 8 = .ok (.iload_n 2, 1) := by decide +kernel
theorem d_M_met_9 : decode prog_7_method_53_code 9 = .ok (.invokestatic 141, 3) := by decide +kernel
theorem d_M_met_12 : decode prog_7_method_53_code 12 = .ok (.ifCond .eq 17, 3) := by decide +kernel
theorem d_M_met_15 : decode prog_7_method_53_code 15 = .ok (.aload_n 0, 1) := by decide +kernel
theorem d_M_met_16 : decode prog_7_method_53_code 16 = .ok (.getfield 106, 3) := by decide +kernel
theorem d_M_met_19 : decode prog_7_method_53_code 19 = .ok (.bipush 6, 2) := by decide +kernel
theorem d_M_met_21 : decode prog_7_method_53_code 21 = .ok (.iload_n 1, 1) := by decide +kernel
theorem d_M_met_22 : decode prog_7_method_53_code 22 = .ok (.imul, 1) := by decide +kernel
theorem d_M_met_23 : decode prog_7_method_53_code 23 = .ok (.iload_n 2, 1) := by decide +kernel
theorem d_M_met_24 : decode prog_7_method_53_code 24 = .ok (.iadd, 1) := by decide +kernel
theorem d_M_met_25 : decode prog_7_method_53_code 25 = .ok (.iaload, 1) := by decide +kernel
theorem d_M_met_26 : decode prog_7_method_53_code 26 = .ok (.goto 4, 3) := by decide +kernel
theorem d_M_met_29 : decode prog_7_method_53_code 29 = .ok (.iconst (-1), 1) := by decide +kernel
theorem d_M_met_30 : decode prog_7_method_53_code 30 = .ok (.ireturn, 1) := by decide +kernel
theorem d_M_ran_0 : decode prog_7_method_54_code 0 = .ok (.iload_n 1, 1) := by decide +kernel
theorem d_M_ran_1 : decode prog_7_method_54_code 1 = .ok (.ifCond .ne 10, 3) := by decide +kernel
theorem d_M_ran_4 : decode prog_7_method_54_code 4 = .ok (.aload_n 0, 1) := by decide +kernel
theorem d_M_ran_5 : decode prog_7_method_54_code 5 = .ok (.getfield 219, 3) := by decide +kernel
theorem d_M_ran_8 : decode prog_7_method_54_code 8 = .ok (.goto 29, 3) := by decide +kernel
theorem d_M_ran_11 : decode prog_7_method_54_code 11 = .ok (.iload_n 1, 1) := by decide +kernel
theorem d_M_ran_12 : decode prog_7_method_54_code 12 = .ok (.iconst 1, 1) := by decide +kernel
theorem d_M_ran_13 : decode prog_7_method_54_code 13 = .ok (.if_icmp .ne 10, 3) := by decide +kernel
theorem d_M_ran_16 : decode prog_7_method_54_code 16 = .ok (.aload_n 0, 1) := by decide +kernel
theorem d_M_ran_17 : decode prog_7_method_54_code 17 = .ok (.getfield 222, 3) := by decide +kernel
theorem d_M_ran_20 : decode prog_7_method_54_code 20 = .ok (.goto 17, 3) := by decide +kernel
theorem d_M_ran_23 : decode prog_7_method_54_code 23 = .ok (.iload_n 1, 1) := by decide +kernel
theorem d_M_ran_24 : decode prog_7_method_54_code 24 = .ok (.iconst 2, 1) := by decide +kernel
theorem d_M_ran_25 : decode prog_7_method_54_code 25 = .ok (.if_icmp .ne 10, 3) := by decide +kernel
theorem d_M_ran_28 : decode prog_7_method_54_code 28 = .ok (.aload_n 0, 1) := by decide +kernel
theorem d_M_ran_29 : decode prog_7_method_54_code 29 = .ok (.getfield 225, 3) := by decide +kernel
theorem d_M_ran_32 : decode prog_7_method_54_code 32 = .ok (.goto 5, 3) := by decide +kernel
theorem d_M_ran_35 : decode prog_7_method_54_code 35 = .ok (.bipush (-2), 2) := by decide +kernel
theorem d_M_ran_37 : decode prog_7_method_54_code 37 = .ok (.ireturn, 1) := by decide +kernel
theorem d_P_hasClass_0 : decode prog_2_method_2_code 0 = .ok (.iload_n 1, 1) := by decide +kernel
theorem d_P_hasClass_1 : decode prog_2_method_2_code 1 = .ok (.ifCond .lt 15, 3) := by decide +kernel
theorem d_P_hasClass_4 : decode prog_2_method_2_code 4 = .ok (.iload_n 1, 1) := by decide +kernel
theorem d_P_hasClass_5 : decode prog_2_method_2_code 5 = .ok (.aload_n 0, 1) := by decide +kernel
theorem d_P_hasClass_6 : decode prog_2_method_2_code 6 = .ok (.getfield 46, 3) := by decide +kernel
theorem d_P_hasClass_9 : decode prog_2_method_2_code 9 = .ok (.if_icmp .ge 7, 3) := by decide +kernel
theorem d_P_hasClass_12 : decode prog_2_method_2_code 12 = .ok (.iconst 1, 1) := by decide +kernel
theorem d_P_hasClass_13 : decode prog_2_method_2_code 13 = .ok (.goto 4, 3) := by decide +kernel
theorem d_P_hasClass_16 : decode prog_2_method_2_code 16 = .ok (.iconst 0, 1) := by decide +kernel
theorem d_P_hasClass_17 : decode prog_2_method_2_code 17 = .ok (.ireturn, 1) := by decide +kernel
theorem d_P_hasField_0 : decode prog_2_method_3_code 0 = .ok (.iload_n 1, 1) := by decide +kernel
theorem d_P_hasField_1 : decode prog_2_method_3_code 1 = .ok (.ifCond .lt 15, 3) := by decide +kernel
theorem d_P_hasField_4 : decode prog_2_method_3_code 4 = .ok (.iload_n 1, 1) := by decide +kernel
theorem d_P_hasField_5 : decode prog_2_method_3_code 5 = .ok (.aload_n 0, 1) := by decide +kernel
theorem d_P_hasField_6 : decode prog_2_method_3_code 6 = .ok (.getfield 50, 3) := by decide +kernel
theorem d_P_hasField_9 : decode prog_2_method_3_code 9 = .ok (.if_icmp .ge 7, 3) := by decide +kernel
theorem d_P_hasField_12 : decode prog_2_method_3_code 12 = .ok (.iconst 1, 1) := by decide +kernel
theorem d_P_hasField_13 : decode prog_2_method_3_code 13 = .ok (.goto 4, 3) := by decide +kernel
theorem d_P_hasField_16 : decode prog_2_method_3_code 16 = .ok (.iconst 0, 1) := by decide +kernel
theorem d_P_hasField_17 : decode prog_2_method_3_code 17 = .ok (.ireturn, 1) := by decide +kernel
theorem d_P_hasMethod_0 : decode prog_2_method_4_code 0 = .ok (.iload_n 1, 1) := by decide +kernel
theorem d_P_hasMethod_1 : decode prog_2_method_4_code 1 = .ok (.ifCond .lt 15, 3) := by decide +kernel
theorem d_P_hasMethod_4 : decode prog_2_method_4_code 4 = .ok (.iload_n 1, 1) := by decide +kernel
theorem d_P_hasMethod_5 : decode prog_2_method_4_code 5 = .ok (.aload_n 0, 1) := by decide +kernel
theorem d_P_hasMethod_6 : decode prog_2_method_4_code 6 = .ok (.getfield 53, 3) := by decide +kernel
theorem d_P_hasMethod_9 : decode prog_2_method_4_code 9 = .ok (.if_icmp .ge 7, 3) := by decide +kernel
theorem d_P_hasMethod_12 : decode prog_2_method_4_code 12 = .ok (.iconst 1, 1) := by decide +kernel
theorem d_P_hasMethod_13 : decode prog_2_method_4_code 13 = .ok (.goto 4, 3) := by decide +kernel
theorem d_P_hasMethod_16 : decode prog_2_method_4_code 16 = .ok (.iconst 0, 1) := by decide +kernel
theorem d_P_hasMethod_17 : decode prog_2_method_4_code 17 = .ok (.ireturn, 1) := by decide +kernel
theorem d_P_hasName_0 : decode prog_2_method_5_code 0 = .ok (.aload_n 0, 1) := by decide +kernel
theorem d_P_hasName_1 : decode prog_2_method_5_code 1 = .ok (.iload_n 1, 1) := by decide +kernel
theorem d_P_hasName_2 : decode prog_2_method_5_code 2 = .ok (.invokevirtual 56, 3) := by decide +kernel
theorem d_P_hasName_5 : decode prog_2_method_5_code 5 = .ok (.ifCond .eq 14, 3) := by decide +kernel
theorem d_P_hasName_8 : decode prog_2_method_5_code 8 = .ok (.iload_n 2, 1) := by decide +kernel
theorem d_P_hasName_9 : decode prog_2_method_5_code 9 = .ok (.invokestatic 60, 3) := by decide +kernel
theorem d_P_hasName_12 : decode prog_2_method_5_code 12 = .ok (.ifCond .eq 7, 3) := by decide +kernel
theorem d_P_hasName_15 : decode prog_2_method_5_code 15 = .ok (.iconst 1, 1) := by decide +kernel
theorem d_P_hasName_16 : decode prog_2_method_5_code 16 = .ok (.goto 4, 3) := by decide +kernel
theorem d_P_hasName_19 : decode prog_2_method_5_code 19 = .ok (.iconst 0, 1) := by decide +kernel
theorem d_P_hasName_20 : decode prog_2_method_5_code 20 = .ok (.ireturn, 1) := by decide +kernel
theorem d_P_hasStatement_0 : decode prog_2_method_6_code 0 = .ok (.iload_n 1, 1) := by decide +kernel
theorem d_P_hasStatement_1 : decode prog_2_method_6_code 1 = .ok (.ifCond .lt 15, 3) := by decide +kernel
theorem d_P_hasStatement_4 : decode prog_2_method_6_code 4 = .ok (.iload_n 1, 1) := by decide +kernel
theorem d_P_hasStatement_5 : decode prog_2_method_6_code 5 = .ok (.aload_n 0, 1) := by decide +kernel
theorem d_P_hasStatement_6 : decode prog_2_method_6_code 6 = .ok (.getfield 63, 3) := by decide +kernel
theorem d_P_hasStatement_9 : decode prog_2_method_6_code 9 = .ok (.if_icmp .ge 7, 3) := by decide +kernel
theorem d_P_hasStatement_12 : decode prog_2_method_6_code 12 = .ok (.iconst 1, 1) := by decide +kernel
theorem d_P_hasStatement_13 : decode prog_2_method_6_code 13 = .ok (.goto 4, 3) := by decide +kernel
theorem d_P_hasStatement_16 : decode prog_2_method_6_code 16 = .ok (.iconst 0, 1) := by decide +kernel
theorem d_P_hasStatement_17 : decode prog_2_method_6_code 17 = .ok (.ireturn, 1) := by decide +kernel
theorem d_P_hasSite_0 : decode prog_2_method_7_code 0 = .ok (.iload_n 1, 1) := by decide +kernel
theorem d_P_hasSite_1 : decode prog_2_method_7_code 1 = .ok (.ifCond .lt 15, 3) := by decide +kernel
theorem d_P_hasSite_4 : decode prog_2_method_7_code 4 = .ok (.iload_n 1, 1) := by decide +kernel
theorem d_P_hasSite_5 : decode prog_2_method_7_code 5 = .ok (.aload_n 0, 1) := by decide +kernel
theorem d_P_hasSite_6 : decode prog_2_method_7_code 6 = .ok (.getfield 66, 3) := by decide +kernel
theorem d_P_hasSite_9 : decode prog_2_method_7_code 9 = .ok (.if_icmp .ge 7, 3) := by decide +kernel
theorem d_P_hasSite_12 : decode prog_2_method_7_code 12 = .ok (.iconst 1, 1) := by decide +kernel
theorem d_P_hasSite_13 : decode prog_2_method_7_code 13 = .ok (.goto 4, 3) := by decide +kernel
theorem d_P_hasSite_16 : decode prog_2_method_7_code 16 = .ok (.iconst 0, 1) := by decide +kernel
theorem d_P_hasSite_17 : decode prog_2_method_7_code 17 = .ok (.ireturn, 1) := by decide +kernel
theorem d_P_hasOperands_0 : decode prog_2_method_8_code 0 = .ok (.iload_n 1, 1) := by decide +kernel
theorem d_P_hasOperands_1 : decode prog_2_method_8_code 1 = .ok (.tableswitch 202 0 7 #[47, 202, 68, 68, 97, 126, 146, 166], 47) := by decide +kernel
theorem d_P_hasOperands_48 : decode prog_2_method_8_code 48 = .ok (.iload_n 2, 1) := by decide +kernel
theorem d_P_hasOperands_49 : decode prog_2_method_8_code 49 = .ok (.invokestatic 60, 3) := by decide +kernel
theorem d_P_hasOperands_52 : decode prog_2_method_8_code 52 = .ok (.ifCond .eq 15, 3) := by decide +kernel
theorem d_P_hasOperands_55 : decode prog_2_method_8_code 55 = .ok (.aload_n 0, 1) := by decide +kernel
theorem d_P_hasOperands_56 : decode prog_2_method_8_code 56 = .ok (.iload_n 3, 1) := by decide +kernel
theorem d_P_hasOperands_57 : decode prog_2_method_8_code 57 = .ok (.invokevirtual 69, 3) := by decide +kernel
theorem d_P_hasOperands_60 : decode prog_2_method_8_code 60 = .ok (.ifCond .eq 7, 3) := by decide +kernel
theorem d_P_hasOperands_63 : decode prog_2_method_8_code 63 = .ok (.iconst 1, 1) := by decide +kernel
theorem d_P_hasOperands_64 : decode prog_2_method_8_code 64 = .ok (.goto 4, 3) := by decide +kernel
theorem d_P_hasOperands_67 : decode prog_2_method_8_code 67 = .ok (.iconst 0, 1) := by decide +kernel
theorem d_P_hasOperands_68 : decode prog_2_method_8_code 68 = .ok (.ireturn, 1) := by decide +kernel
theorem d_P_hasOperands_69 : decode prog_2_method_8_code 69 = .ok (.iload_n 2, 1) := by decide +kernel
theorem d_P_hasOperands_70 : decode prog_2_method_8_code 70 = .ok (.invokestatic 60, 3) := by decide +kernel
theorem d_P_hasOperands_73 : decode prog_2_method_8_code 73 = .ok (.ifCond .eq 23, 3) := by decide +kernel
theorem d_P_hasOperands_76 : decode prog_2_method_8_code 76 = .ok (.iload_n 3, 1) := by decide +kernel
theorem d_P_hasOperands_77 : decode prog_2_method_8_code 77 = .ok (.invokestatic 60, 3) := by decide +kernel
theorem d_P_hasOperands_80 : decode prog_2_method_8_code 80 = .ok (.ifCond .eq 16, 3) := by decide +kernel
theorem d_P_hasOperands_83 : decode prog_2_method_8_code 83 = .ok (.aload_n 0, 1) := by decide +kernel
theorem d_P_hasOperands_84 : decode prog_2_method_8_code 84 = .ok (.iload 4, 2) := by decide +kernel
theorem d_P_hasOperands_86 : decode prog_2_method_8_code 86 = .ok (.invokevirtual 72, 3) := by decide +kernel
theorem d_P_hasOperands_89 : decode prog_2_method_8_code 89 = .ok (.ifCond .eq 7, 3) := by decide +kernel
theorem d_P_hasOperands_92 : decode prog_2_method_8_code 92 = .ok (.iconst 1, 1) := by decide +kernel
theorem d_P_hasOperands_93 : decode prog_2_method_8_code 93 = .ok (.goto 4, 3) := by decide +kernel
theorem d_P_hasOperands_96 : decode prog_2_method_8_code 96 = .ok (.iconst 0, 1) := by decide +kernel
theorem d_P_hasOperands_97 : decode prog_2_method_8_code 97 = .ok (.ireturn, 1) := by decide +kernel
theorem d_P_hasOperands_98 : decode prog_2_method_8_code 98 = .ok (.iload_n 2, 1) := by decide +kernel
theorem d_P_hasOperands_99 : decode prog_2_method_8_code 99 = .ok (.invokestatic 60, 3) := by decide +kernel
theorem d_P_hasOperands_102 : decode prog_2_method_8_code 102 = .ok (.ifCond .eq 23, 3) := by decide +kernel
theorem d_P_hasOperands_105 : decode prog_2_method_8_code 105 = .ok (.iload_n 3, 1) := by decide +kernel
theorem d_P_hasOperands_106 : decode prog_2_method_8_code 106 = .ok (.invokestatic 60, 3) := by decide +kernel
theorem d_P_hasOperands_109 : decode prog_2_method_8_code 109 = .ok (.ifCond .eq 16, 3) := by decide +kernel
theorem d_P_hasOperands_112 : decode prog_2_method_8_code 112 = .ok (.aload_n 0, 1) := by decide +kernel
theorem d_P_hasOperands_113 : decode prog_2_method_8_code 113 = .ok (.iload 4, 2) := by decide +kernel
theorem d_P_hasOperands_115 : decode prog_2_method_8_code 115 = .ok (.invokevirtual 69, 3) := by decide +kernel
theorem d_P_hasOperands_118 : decode prog_2_method_8_code 118 = .ok (.ifCond .eq 7, 3) := by decide +kernel
theorem d_P_hasOperands_121 : decode prog_2_method_8_code 121 = .ok (.iconst 1, 1) := by decide +kernel
theorem d_P_hasOperands_122 : decode prog_2_method_8_code 122 = .ok (.goto 4, 3) := by decide +kernel
theorem d_P_hasOperands_125 : decode prog_2_method_8_code 125 = .ok (.iconst 0, 1) := by decide +kernel
theorem d_P_hasOperands_126 : decode prog_2_method_8_code 126 = .ok (.ireturn, 1) := by decide +kernel
theorem d_P_hasOperands_127 : decode prog_2_method_8_code 127 = .ok (.iload_n 2, 1) := by decide +kernel
theorem d_P_hasOperands_128 : decode prog_2_method_8_code 128 = .ok (.invokestatic 60, 3) := by decide +kernel
theorem d_P_hasOperands_131 : decode prog_2_method_8_code 131 = .ok (.ifCond .eq 14, 3) := by decide +kernel
theorem d_P_hasOperands_134 : decode prog_2_method_8_code 134 = .ok (.iload_n 3, 1) := by decide +kernel
theorem d_P_hasOperands_135 : decode prog_2_method_8_code 135 = .ok (.invokestatic 75, 3) := by decide +kernel
theorem d_P_hasOperands_138 : decode prog_2_method_8_code 138 = .ok (.ifCond .eq 7, 3) := by decide +kernel
theorem d_P_hasOperands_141 : decode prog_2_method_8_code 141 = .ok (.iconst 1, 1) := by decide +kernel
theorem d_P_hasOperands_142 : decode prog_2_method_8_code 142 = .ok (.goto 4, 3) := by decide +kernel
theorem d_P_hasOperands_145 : decode prog_2_method_8_code 145 = .ok (.iconst 0, 1) := by decide +kernel
theorem d_P_hasOperands_146 : decode prog_2_method_8_code 146 = .ok (.ireturn, 1) := by decide +kernel
theorem d_P_hasOperands_147 : decode prog_2_method_8_code 147 = .ok (.iload_n 2, 1) := by decide +kernel
theorem d_P_hasOperands_148 : decode prog_2_method_8_code 148 = .ok (.invokestatic 75, 3) := by decide +kernel
theorem d_P_hasOperands_151 : decode prog_2_method_8_code 151 = .ok (.ifCond .eq 14, 3) := by decide +kernel
theorem d_P_hasOperands_154 : decode prog_2_method_8_code 154 = .ok (.iload_n 3, 1) := by decide +kernel
theorem d_P_hasOperands_155 : decode prog_2_method_8_code 155 = .ok (.invokestatic 60, 3) := by decide +kernel
theorem d_P_hasOperands_158 : decode prog_2_method_8_code 158 = .ok (.ifCond .eq 7, 3) := by decide +kernel
theorem d_P_hasOperands_161 : decode prog_2_method_8_code 161 = .ok (.iconst 1, 1) := by decide +kernel
theorem d_P_hasOperands_162 : decode prog_2_method_8_code 162 = .ok (.goto 4, 3) := by decide +kernel
theorem d_P_hasOperands_165 : decode prog_2_method_8_code 165 = .ok (.iconst 0, 1) := by decide +kernel
theorem d_P_hasOperands_166 : decode prog_2_method_8_code 166 = .ok (.ireturn, 1) := by decide +kernel
theorem d_P_hasOperands_167 : decode prog_2_method_8_code 167 = .ok (.iload_n 2, 1) := by decide +kernel
theorem d_P_hasOperands_168 : decode prog_2_method_8_code 168 = .ok (.invokestatic 60, 3) := by decide +kernel
theorem d_P_hasOperands_171 : decode prog_2_method_8_code 171 = .ok (.ifCond .eq 30, 3) := by decide +kernel
theorem d_P_hasOperands_174 : decode prog_2_method_8_code 174 = .ok (.iload_n 3, 1) := by decide +kernel
theorem d_P_hasOperands_175 : decode prog_2_method_8_code 175 = .ok (.invokestatic 60, 3) := by decide +kernel
theorem d_P_hasOperands_178 : decode prog_2_method_8_code 178 = .ok (.ifCond .eq 23, 3) := by decide +kernel
theorem d_P_hasOperands_181 : decode prog_2_method_8_code 181 = .ok (.iload 5, 2) := by decide +kernel
theorem d_P_hasOperands_183 : decode prog_2_method_8_code 183 = .ok (.invokestatic 60, 3) := by decide +kernel
theorem d_P_hasOperands_186 : decode prog_2_method_8_code 186 = .ok (.ifCond .eq 15, 3) := by decide +kernel
theorem d_P_hasOperands_189 : decode prog_2_method_8_code 189 = .ok (.iload 6, 2) := by decide +kernel
theorem d_P_hasOperands_191 : decode prog_2_method_8_code 191 = .ok (.invokestatic 60, 3) := by decide +kernel
theorem d_P_hasOperands_194 : decode prog_2_method_8_code 194 = .ok (.ifCond .eq 7, 3) := by decide +kernel
theorem d_P_hasOperands_197 : decode prog_2_method_8_code 197 = .ok (.iconst 1, 1) := by decide +kernel
theorem d_P_hasOperands_198 : decode prog_2_method_8_code 198 = .ok (.goto 4, 3) := by decide +kernel
theorem d_P_hasOperands_201 : decode prog_2_method_8_code 201 = .ok (.iconst 0, 1) := by decide +kernel
theorem d_P_hasOperands_202 : decode prog_2_method_8_code 202 = .ok (.ireturn, 1) := by decide +kernel
theorem d_P_hasOperands_203 : decode prog_2_method_8_code 203 = .ok (.iload_n 2, 1) := by decide +kernel
theorem d_P_hasOperands_204 : decode prog_2_method_8_code 204 = .ok (.invokestatic 60, 3) := by decide +kernel
theorem d_P_hasOperands_207 : decode prog_2_method_8_code 207 = .ok (.ifCond .eq 14, 3) := by decide +kernel
theorem d_P_hasOperands_210 : decode prog_2_method_8_code 210 = .ok (.iload_n 3, 1) := by decide +kernel
theorem d_P_hasOperands_211 : decode prog_2_method_8_code 211 = .ok (.invokestatic 60, 3) := by decide +kernel
theorem d_P_hasOperands_214 : decode prog_2_method_8_code 214 = .ok (.ifCond .eq 7, 3) := by decide +kernel
theorem d_P_hasOperands_217 : decode prog_2_method_8_code 217 = .ok (.iconst 1, 1) := by decide +kernel
theorem d_P_hasOperands_218 : decode prog_2_method_8_code 218 = .ok (.goto 4, 3) := by decide +kernel
theorem d_P_hasOperands_221 : decode prog_2_method_8_code 221 = .ok (.iconst 0, 1) := by decide +kernel
theorem d_P_hasOperands_222 : decode prog_2_method_8_code 222 = .ok (.ireturn, 1) := by decide +kernel
theorem d_P_hasRoomFor_0 : decode prog_2_method_9_code 0 = .ok (.aload_n 0, 1) := by decide +kernel
theorem d_P_hasRoomFor_1 : decode prog_2_method_9_code 1 = .ok (.getfield 63, 3) := by decide +kernel
theorem d_P_hasRoomFor_4 : decode prog_2_method_9_code 4 = .ok (.bipush 60, 2) := by decide +kernel
theorem d_P_hasRoomFor_6 : decode prog_2_method_9_code 6 = .ok (.if_icmp .ge 20, 3) := by decide +kernel
theorem d_P_hasRoomFor_9 : decode prog_2_method_9_code 9 = .ok (.iload_n 1, 1) := by decide +kernel
theorem d_P_hasRoomFor_10 : decode prog_2_method_9_code 10 = .ok (.ifCond .ne 12, 3) := by decide +kernel
theorem d_P_hasRoomFor_13 : decode prog_2_method_9_code 13 = .ok (.aload_n 0, 1) := by decide +kernel
theorem d_P_hasRoomFor_14 : decode prog_2_method_9_code 14 = .ok (.getfield 66, 3) := by decide +kernel
theorem d_P_hasRoomFor_17 : decode prog_2_method_9_code 17 = .ok (.bipush 20, 2) := by decide +kernel
theorem d_P_hasRoomFor_19 : decode prog_2_method_9_code 19 = .ok (.if_icmp .ge 7, 3) := by decide +kernel
theorem d_P_hasRoomFor_22 : decode prog_2_method_9_code 22 = .ok (.iconst 1, 1) := by decide +kernel
theorem d_P_hasRoomFor_23 : decode prog_2_method_9_code 23 = .ok (.goto 4, 3) := by decide +kernel
theorem d_P_hasRoomFor_26 : decode prog_2_method_9_code 26 = .ok (.iconst 0, 1) := by decide +kernel
theorem d_P_hasRoomFor_27 : decode prog_2_method_9_code 27 = .ok (.ireturn, 1) := by decide +kernel
theorem d_P_empty_0 : decode prog_2_method_10_code 0 = .ok (.aload_n 0, 1) := by decide +kernel
theorem d_P_empty_1 : decode prog_2_method_10_code 1 = .ok (.iconst 0, 1) := by decide +kernel
theorem d_P_empty_2 : decode prog_2_method_10_code 2 = .ok (.putfield 46, 3) := by decide +kernel
theorem d_P_empty_5 : decode prog_2_method_10_code 5 = .ok (.aload_n 0, 1) := by decide +kernel
theorem d_P_empty_6 : decode prog_2_method_10_code 6 = .ok (.iconst 0, 1) := by decide +kernel
theorem d_P_empty_7 : decode prog_2_method_10_code 7 = .ok (.putfield 50, 3) := by decide +kernel
theorem d_P_empty_10 : decode prog_2_method_10_code 10 = .ok (.aload_n 0, 1) := by decide +kernel
theorem d_P_empty_11 : decode prog_2_method_10_code 11 = .ok (.iconst 0, 1) := by decide +kernel
theorem d_P_empty_12 : decode prog_2_method_10_code 12 = .ok (.putfield 53, 3) := by decide +kernel
theorem d_P_empty_15 : decode prog_2_method_10_code 15 = .ok (.aload_n 0, 1) := by decide +kernel
theorem d_P_empty_16 : decode prog_2_method_10_code 16 = .ok (.iconst 0, 1) := by decide +kernel
theorem d_P_empty_17 : decode prog_2_method_10_code 17 = .ok (.putfield 63, 3) := by decide +kernel
theorem d_P_empty_20 : decode prog_2_method_10_code 20 = .ok (.aload_n 0, 1) := by decide +kernel
theorem d_P_empty_21 : decode prog_2_method_10_code 21 = .ok (.iconst 0, 1) := by decide +kernel
theorem d_P_empty_22 : decode prog_2_method_10_code 22 = .ok (.putfield 66, 3) := by decide +kernel
theorem d_P_empty_25 : decode prog_2_method_10_code 25 = .ok (.return_, 1) := by decide +kernel
theorem d_P_addClass_0 : decode prog_2_method_11_code 0 = .ok (.aload_n 0, 1) := by decide +kernel
theorem d_P_addClass_1 : decode prog_2_method_11_code 1 = .ok (.dup, 1) := by decide +kernel
theorem d_P_addClass_2 : decode prog_2_method_11_code 2 = .ok (.getfield 46, 3) := by decide +kernel
theorem d_P_addClass_5 : decode prog_2_method_11_code 5 = .ok (.dup_x1, 1) := by decide +kernel
theorem d_P_addClass_6 : decode prog_2_method_11_code 6 = .ok (.iconst 1, 1) := by decide +kernel
theorem d_P_addClass_7 : decode prog_2_method_11_code 7 = .ok (.iadd, 1) := by decide +kernel
theorem d_P_addClass_8 : decode prog_2_method_11_code 8 = .ok (.putfield 46, 3) := by decide +kernel
theorem d_P_addClass_11 : decode prog_2_method_11_code 11 = .ok (.istore_n 2, 1) := by decide +kernel
theorem d_P_addClass_12 : decode prog_2_method_11_code 12 = .ok (.aload_n 0, 1) := by decide +kernel
theorem d_P_addClass_13 : decode prog_2_method_11_code 13 = .ok (.getfield 9, 3) := by decide +kernel
theorem d_P_addClass_16 : decode prog_2_method_11_code 16 = .ok (.iload_n 2, 1) := by decide +kernel
theorem d_P_addClass_17 : decode prog_2_method_11_code 17 = .ok (.iload_n 1, 1) := by decide +kernel
theorem d_P_addClass_18 : decode prog_2_method_11_code 18 = .ok (.iastore, 1) := by decide +kernel
theorem d_P_addClass_19 : decode prog_2_method_11_code 19 = .ok (.aload_n 0, 1) := by decide +kernel
theorem d_P_addClass_20 : decode prog_2_method_11_code 20 = .ok (.getfield 15, 3) := by decide +kernel
theorem d_P_addClass_23 : decode prog_2_method_11_code 23 = .ok (.iload_n 2, 1) := by decide +kernel
theorem d_P_addClass_24 : decode prog_2_method_11_code 24 = .ok (.iconst 1, 1) := by decide +kernel
theorem d_P_addClass_25 : decode prog_2_method_11_code 25 = .ok (.iload_n 2, 1) := by decide +kernel
theorem d_P_addClass_26 : decode prog_2_method_11_code 26 = .ok (.ishl, 1) := by decide +kernel
theorem d_P_addClass_27 : decode prog_2_method_11_code 27 = .ok (.iastore, 1) := by decide +kernel
theorem d_P_addClass_28 : decode prog_2_method_11_code 28 = .ok (.iload_n 1, 1) := by decide +kernel
theorem d_P_addClass_29 : decode prog_2_method_11_code 29 = .ok (.iconst (-1), 1) := by decide +kernel
theorem d_P_addClass_30 : decode prog_2_method_11_code 30 = .ok (.if_icmp .eq 18, 3) := by decide +kernel
theorem d_P_addClass_33 : decode prog_2_method_11_code 33 = .ok (.aload_n 0, 1) := by decide +kernel
theorem d_P_addClass_34 : decode prog_2_method_11_code 34 = .ok (.getfield 15, 3) := by decide +kernel
theorem d_P_addClass_37 : decode prog_2_method_11_code 37 = .ok (.iload_n 2, 1) := by decide +kernel
theorem d_P_addClass_38 : decode prog_2_method_11_code 38 = .ok (.dup2, 1) := by decide +kernel
theorem d_P_addClass_39 : decode prog_2_method_11_code 39 = .ok (.iaload, 1) := by decide +kernel
theorem d_P_addClass_40 : decode prog_2_method_11_code 40 = .ok (.aload_n 0, 1) := by decide +kernel
theorem d_P_addClass_41 : decode prog_2_method_11_code 41 = .ok (.getfield 15, 3) := by decide +kernel
theorem d_P_addClass_44 : decode prog_2_method_11_code 44 = .ok (.iload_n 1, 1) := by decide +kernel
theorem d_P_addClass_45 : decode prog_2_method_11_code 45 = .ok (.iaload, 1) := by decide +kernel
theorem d_P_addClass_46 : decode prog_2_method_11_code 46 = .ok (.ior, 1) := by decide +kernel
theorem d_P_addClass_47 : decode prog_2_method_11_code 47 = .ok (.iastore, 1) := by decide +kernel
theorem d_P_addClass_48 : decode prog_2_method_11_code 48 = .ok (.aload_n 0, 1) := by decide +kernel
theorem d_P_addClass_49 : decode prog_2_method_11_code 49 = .ok (.getfield 18, 3) := by decide +kernel
theorem d_P_addClass_52 : decode prog_2_method_11_code 52 = .ok (.iload_n 2, 1) := by decide +kernel
theorem d_P_addClass_53 : decode prog_2_method_11_code 53 = .ok (.iconst 0, 1) := by decide +kernel
theorem d_P_addClass_54 : decode prog_2_method_11_code 54 = .ok (.iastore, 1) := by decide +kernel
theorem d_P_addClass_55 : decode prog_2_method_11_code 55 = .ok (.iconst 0, 1) := by decide +kernel
theorem d_P_addClass_56 : decode prog_2_method_11_code 56 = .ok (.istore_n 3, 1) := by decide +kernel
theorem d_P_addClass_57 : decode prog_2_method_11_code 57 = .ok (.iload_n 3, 1) := by decide +kernel
theorem d_P_addClass_58 : decode prog_2_method_11_code 58 = .ok (.iconst 4, 1) := by decide +kernel
theorem d_P_addClass_59 : decode prog_2_method_11_code 59 = .ok (.if_icmp .ge 26, 3) := by decide +kernel
theorem d_P_addClass_62 : decode prog_2_method_11_code 62 = .ok (.aload_n 0, 1) := by decide +kernel
theorem d_P_addClass_63 : decode prog_2_method_11_code 63 = .ok (.getfield 21, 3) := by decide +kernel
theorem d_P_addClass_66 : decode prog_2_method_11_code 66 = .ok (.iload_n 2, 1) := by decide +kernel
theorem d_P_addClass_67 : decode prog_2_method_11_code 67 = .ok (.iconst 4, 1) := by decide +kernel
theorem d_P_addClass_68 : decode prog_2_method_11_code 68 = .ok (.imul, 1) := by decide +kernel
theorem d_P_addClass_69 : decode prog_2_method_11_code 69 = .ok (.iload_n 3, 1) := by decide +kernel
theorem d_P_addClass_70 : decode prog_2_method_11_code 70 = .ok (.iadd, 1) := by decide +kernel
theorem d_P_addClass_71 : decode prog_2_method_11_code 71 = .ok (.iconst (-1), 1) := by decide +kernel
theorem d_P_addClass_72 : decode prog_2_method_11_code 72 = .ok (.iastore, 1) := by decide +kernel
theorem d_P_addClass_73 : decode prog_2_method_11_code 73 = .ok (.aload_n 0, 1) := by decide +kernel
theorem d_P_addClass_74 : decode prog_2_method_11_code 74 = .ok (.iload_n 2, 1) := by decide +kernel
theorem d_P_addClass_75 : decode prog_2_method_11_code 75 = .ok (.iload_n 3, 1) := by decide +kernel
theorem d_P_addClass_76 : decode prog_2_method_11_code 76 = .ok (.invokevirtual 78, 3) := by decide +kernel
theorem d_P_addClass_79 : decode prog_2_method_11_code 79 = .ok (.iinc 3 1, 3) := by decide +kernel
theorem d_P_addClass_82 : decode prog_2_method_11_code 82 = .ok (.goto (-25), 3) := by decide +kernel
theorem d_P_addClass_85 : decode prog_2_method_11_code 85 = .ok (.iload_n 2, 1) := by decide +kernel
theorem d_P_addClass_86 : decode prog_2_method_11_code 86 = .ok (.ireturn, 1) := by decide +kernel
theorem d_P_addField_0 : decode prog_2_method_12_code 0 = .ok (.aload_n 0, 1) := by decide +kernel
theorem d_P_addField_1 : decode prog_2_method_12_code 1 = .ok (.dup, 1) := by decide +kernel
theorem d_P_addField_2 : decode prog_2_method_12_code 2 = .ok (.getfield 50, 3) := by decide +kernel
theorem d_P_addField_5 : decode prog_2_method_12_code 5 = .ok (.dup_x1, 1) := by decide +kernel
theorem d_P_addField_6 : decode prog_2_method_12_code 6 = .ok (.iconst 1, 1) := by decide +kernel
theorem d_P_addField_7 : decode prog_2_method_12_code 7 = .ok (.iadd, 1) := by decide +kernel
theorem d_P_addField_8 : decode prog_2_method_12_code 8 = .ok (.putfield 50, 3) := by decide +kernel
theorem d_P_addField_11 : decode prog_2_method_12_code 11 = .ok (.istore_n 2, 1) := by decide +kernel
theorem d_P_addField_12 : decode prog_2_method_12_code 12 = .ok (.aload_n 0, 1) := by decide +kernel
theorem d_P_addField_13 : decode prog_2_method_12_code 13 = .ok (.getfield 27, 3) := by decide +kernel
theorem d_P_addField_16 : decode prog_2_method_12_code 16 = .ok (.iload_n 2, 1) := by decide +kernel
theorem d_P_addField_17 : decode prog_2_method_12_code 17 = .ok (.iload_n 1, 1) := by decide +kernel
theorem d_P_addField_18 : decode prog_2_method_12_code 18 = .ok (.iastore, 1) := by decide +kernel
theorem d_P_addField_19 : decode prog_2_method_12_code 19 = .ok (.iload_n 2, 1) := by decide +kernel
theorem d_P_addField_20 : decode prog_2_method_12_code 20 = .ok (.ireturn, 1) := by decide +kernel
theorem d_P_addMethod_0 : decode prog_2_method_13_code 0 = .ok (.aload_n 0, 1) := by decide +kernel
theorem d_P_addMethod_1 : decode prog_2_method_13_code 1 = .ok (.dup, 1) := by decide +kernel
theorem d_P_addMethod_2 : decode prog_2_method_13_code 2 = .ok (.getfield 53, 3) := by decide +kernel
theorem d_P_addMethod_5 : decode prog_2_method_13_code 5 = .ok (.dup_x1, 1) := by decide +kernel
theorem d_P_addMethod_6 : decode prog_2_method_13_code 6 = .ok (.iconst 1, 1) := by decide +kernel
theorem d_P_addMethod_7 : decode prog_2_method_13_code 7 = .ok (.iadd, 1) := by decide +kernel
theorem d_P_addMethod_8 : decode prog_2_method_13_code 8 = .ok (.putfield 53, 3) := by decide +kernel
theorem d_P_addMethod_11 : decode prog_2_method_13_code 11 = .ok (.istore_n 3, 1) := by decide +kernel
theorem d_P_addMethod_12 : decode prog_2_method_13_code 12 = .ok (.aload_n 0, 1) := by decide +kernel
theorem d_P_addMethod_13 : decode prog_2_method_13_code 13 = .ok (.getfield 39, 3) := by decide +kernel
theorem d_P_addMethod_16 : decode prog_2_method_13_code 16 = .ok (.iload_n 3, 1) := by decide +kernel
theorem d_P_addMethod_17 : decode prog_2_method_13_code 17 = .ok (.iconst 0, 1) := by decide +kernel
theorem d_P_addMethod_18 : decode prog_2_method_13_code 18 = .ok (.iastore, 1) := by decide +kernel
theorem d_P_addMethod_19 : decode prog_2_method_13_code 19 = .ok (.aload_n 0, 1) := by decide +kernel
theorem d_P_addMethod_20 : decode prog_2_method_13_code 20 = .ok (.getfield 21, 3) := by decide +kernel
theorem d_P_addMethod_23 : decode prog_2_method_13_code 23 = .ok (.iload_n 1, 1) := by decide +kernel
theorem d_P_addMethod_24 : decode prog_2_method_13_code 24 = .ok (.iconst 4, 1) := by decide +kernel
theorem d_P_addMethod_25 : decode prog_2_method_13_code 25 = .ok (.imul, 1) := by decide +kernel
theorem d_P_addMethod_26 : decode prog_2_method_13_code 26 = .ok (.iload_n 2, 1) := by decide +kernel
theorem d_P_addMethod_27 : decode prog_2_method_13_code 27 = .ok (.iadd, 1) := by decide +kernel
theorem d_P_addMethod_28 : decode prog_2_method_13_code 28 = .ok (.iload_n 3, 1) := by decide +kernel
theorem d_P_addMethod_29 : decode prog_2_method_13_code 29 = .ok (.iastore, 1) := by decide +kernel
theorem d_P_addMethod_30 : decode prog_2_method_13_code 30 = .ok (.iload_n 1, 1) := by decide +kernel
theorem d_P_addMethod_31 : decode prog_2_method_13_code 31 = .ok (.istore 4, 2) := by decide +kernel
theorem d_P_addMethod_33 : decode prog_2_method_13_code 33 = .ok (.iload 4, 2) := by decide +kernel
theorem d_P_addMethod_35 : decode prog_2_method_13_code 35 = .ok (.aload_n 0, 1) := by decide +kernel
theorem d_P_addMethod_36 : decode prog_2_method_13_code 36 = .ok (.getfield 46, 3) := by decide +kernel
theorem d_P_addMethod_39 : decode prog_2_method_13_code 39 = .ok (.if_icmp .ge 16, 3) := by decide +kernel
theorem d_P_addMethod_42 : decode prog_2_method_13_code 42 = .ok (.aload_n 0, 1) := by decide +kernel
theorem d_P_addMethod_43 : decode prog_2_method_13_code 43 = .ok (.iload 4, 2) := by decide +kernel
theorem d_P_addMethod_45 : decode prog_2_method_13_code 45 = .ok (.iload_n 2, 1) := by decide +kernel
theorem d_P_addMethod_46 : decode prog_2_method_13_code 46 = .ok (.invokevirtual 78, 3) := by decide +kernel
theorem d_P_addMethod_49 : decode prog_2_method_13_code 49 = .ok (.iinc 4 1, 3) := by decide +kernel
theorem d_P_addMethod_52 : decode prog_2_method_13_code 52 = .ok (.goto (-19), 3) := by decide +kernel
theorem d_P_addMethod_55 : decode prog_2_method_13_code 55 = .ok (.iload_n 3, 1) := by decide +kernel
theorem d_P_addMethod_56 : decode prog_2_method_13_code 56 = .ok (.ireturn, 1) := by decide +kernel
theorem d_P_findMethod_0 : decode prog_2_method_14_code 0 = .ok (.aload_n 0, 1) := by decide +kernel
theorem d_P_findMethod_1 : decode prog_2_method_14_code 1 = .ok (.getfield 21, 3) := by decide +kernel
theorem d_P_findMethod_4 : decode prog_2_method_14_code 4 = .ok (.iload_n 1, 1) := by decide +kernel
theorem d_P_findMethod_5 : decode prog_2_method_14_code 5 = .ok (.iconst 4, 1) := by decide +kernel
theorem d_P_findMethod_6 : decode prog_2_method_14_code 6 = .ok (.imul, 1) := by decide +kernel
theorem d_P_findMethod_7 : decode prog_2_method_14_code 7 = .ok (.iload_n 2, 1) := by decide +kernel
theorem d_P_findMethod_8 : decode prog_2_method_14_code 8 = .ok (.iadd, 1) := by decide +kernel
theorem d_P_findMethod_9 : decode prog_2_method_14_code 9 = .ok (.iaload, 1) := by decide +kernel
theorem d_P_findMethod_10 : decode prog_2_method_14_code 10 = .ok (.istore_n 3, 1) := by decide +kernel
theorem d_P_findMethod_11 : decode prog_2_method_14_code 11 = .ok (.iload_n 3, 1) := by decide +kernel
theorem d_P_findMethod_12 : decode prog_2_method_14_code 12 = .ok (.iconst (-1), 1) := by decide +kernel
theorem d_P_findMethod_13 : decode prog_2_method_14_code 13 = .ok (.if_icmp .ne 29, 3) := by decide +kernel
theorem d_P_findMethod_16 : decode prog_2_method_14_code 16 = .ok (.aload_n 0, 1) := by decide +kernel
theorem d_P_findMethod_17 : decode prog_2_method_14_code 17 = .ok (.getfield 9, 3) := by decide +kernel
theorem d_P_findMethod_20 : decode prog_2_method_14_code 20 = .ok (.iload_n 1, 1) := by decide +kernel
theorem d_P_findMethod_21 : decode prog_2_method_14_code 21 = .ok (.iaload, 1) := by decide +kernel
theorem d_P_findMethod_22 : decode prog_2_method_14_code 22 = .ok (.iconst (-1), 1) := by decide +kernel
theorem d_P_findMethod_23 : decode prog_2_method_14_code 23 = .ok (.if_icmp .eq 19, 3) := by decide +kernel
theorem d_P_findMethod_26 : decode prog_2_method_14_code 26 = .ok (.aload_n 0, 1) := by decide +kernel
theorem d_P_findMethod_27 : decode prog_2_method_14_code 27 = .ok (.getfield 24, 3) := by decide +kernel
theorem d_P_findMethod_30 : decode prog_2_method_14_code 30 = .ok (.aload_n 0, 1) := by decide +kernel
theorem d_P_findMethod_31 : decode prog_2_method_14_code 31 = .ok (.getfield 9, 3) := by decide +kernel
theorem d_P_findMethod_34 : decode prog_2_method_14_code 34 = .ok (.iload_n 1, 1) := by decide +kernel
theorem d_P_findMethod_35 : decode prog_2_method_14_code 35 = .ok (.iaload, 1) := by decide +kernel
theorem d_P_findMethod_36 : decode prog_2_method_14_code 36 = .ok (.iconst 4, 1) := by decide +kernel
theorem d_P_findMethod_37 : decode prog_2_method_14_code 37 = .ok (.imul, 1) := by decide +kernel
theorem d_P_findMethod_38 : decode prog_2_method_14_code 38 = .ok (.iload_n 2, 1) := by decide +kernel
theorem d_P_findMethod_39 : decode prog_2_method_14_code 39 = .ok (.iadd, 1) := by decide +kernel
theorem d_P_findMethod_40 : decode prog_2_method_14_code 40 = .ok (.iaload, 1) := by decide +kernel
theorem d_P_findMethod_41 : decode prog_2_method_14_code 41 = .ok (.istore_n 3, 1) := by decide +kernel
theorem d_P_findMethod_42 : decode prog_2_method_14_code 42 = .ok (.aload_n 0, 1) := by decide +kernel
theorem d_P_findMethod_43 : decode prog_2_method_14_code 43 = .ok (.getfield 24, 3) := by decide +kernel
theorem d_P_findMethod_46 : decode prog_2_method_14_code 46 = .ok (.iload_n 1, 1) := by decide +kernel
theorem d_P_findMethod_47 : decode prog_2_method_14_code 47 = .ok (.iconst 4, 1) := by decide +kernel
theorem d_P_findMethod_48 : decode prog_2_method_14_code 48 = .ok (.imul, 1) := by decide +kernel
theorem d_P_findMethod_49 : decode prog_2_method_14_code 49 = .ok (.iload_n 2, 1) := by decide +kernel
theorem d_P_findMethod_50 : decode prog_2_method_14_code 50 = .ok (.iadd, 1) := by decide +kernel
theorem d_P_findMethod_51 : decode prog_2_method_14_code 51 = .ok (.iload_n 3, 1) := by decide +kernel
theorem d_P_findMethod_52 : decode prog_2_method_14_code 52 = .ok (.iastore, 1) := by decide +kernel
theorem d_P_findMethod_53 : decode prog_2_method_14_code 53 = .ok (.return_, 1) := by decide +kernel
theorem d_P_nextStatement_0 : decode prog_2_method_15_code 0 = .ok (.aload_n 0, 1) := by decide +kernel
theorem d_P_nextStatement_1 : decode prog_2_method_15_code 1 = .ok (.getfield 35, 3) := by decide +kernel
theorem d_P_nextStatement_4 : decode prog_2_method_15_code 4 = .ok (.aload_n 0, 1) := by decide +kernel
theorem d_P_nextStatement_5 : decode prog_2_method_15_code 5 = .ok (.getfield 63, 3) := by decide +kernel
theorem d_P_nextStatement_8 : decode prog_2_method_15_code 8 = .ok (.aaload, 1) := by decide +kernel
theorem d_P_nextStatement_9 : decode prog_2_method_15_code 9 = .ok (.areturn, 1) := by decide +kernel
theorem r_M_leave_0 {Q : Option mV → mS → Prop} {σ : mS} (h : (¬ (σ 25 37) = (1 : Int32) → (∀ t1, t1 = (m_up σ 25 37 ((σ 25 37) - (1 : Int32))) → (vp_in (t1 25 37) 10 ∧ (vp_in (((nI 6) * (t1 25 37)) + (nI 5)) 60 ∧ (vp_in (((nI 6) * ((t1 25 37) - (1 : Int32))) + (t1 56 (t1 25 37).toNatClampNeg)) 60 ∧ (Q none (m_up t1 57 (((nI 6) * ((t1 25 37) - (1 : Int32))) + (t1 56 (t1 25 37).toNatClampNeg)).toNatClampNeg (t1 57 (((nI 6) * (t1 25 37)) + (nI 5)).toNatClampNeg)))))))) ∧ ((σ 25 37) = (1 : Int32) → (Q none σ))) : J M_M_leave Q 0 [some (.inr (25, 0))] [] σ :=
  J_aload_n (i := 0) rfl rfl d_M_leave_0 <|
  gM_222 rfl d_M_leave_1 <|
  J_iconst (v := (1 : Int32)) d_M_leave_4 (by decide) <|
  J_icmp_ne (tgt := 9) d_M_leave_5 (by decide) (fun c3 =>
  J_aload_n (i := 0) rfl rfl d_M_leave_9 <|
  J_dup d_M_leave_10 <|
  gM_222 rfl d_M_leave_11 <|
  J_iconst (v := (1 : Int32)) d_M_leave_14 (by decide) <|
  J_isub d_M_leave_15 <|
  pM_222 rfl d_M_leave_16 <|
  J_names (fun t1 et1 =>
  J_aload_n (i := 0) rfl rfl d_M_leave_19 <|
  gM_103 rfl d_M_leave_20 <|
  J_bipush (v := (nI 6)) d_M_leave_23 (by decide) <|
  J_aload_n (i := 0) rfl rfl d_M_leave_25 <|
  gM_222 rfl d_M_leave_26 <|
  J_iconst (v := (1 : Int32)) d_M_leave_29 (by decide) <|
  J_isub d_M_leave_30 <|
  J_imul d_M_leave_31 <|
  J_aload_n (i := 0) rfl rfl d_M_leave_32 <|
  gM_100 rfl d_M_leave_33 <|
  J_aload_n (i := 0) rfl rfl d_M_leave_36 <|
  gM_222 rfl d_M_leave_37 <|
  J_iald (((((h).1 c3)) t1 et1)).1 d_M_leave_40 <|
  J_iadd d_M_leave_41 <|
  J_aload_n (i := 0) rfl rfl d_M_leave_42 <|
  gM_103 rfl d_M_leave_43 <|
  J_bipush (v := (nI 6)) d_M_leave_46 (by decide) <|
  J_aload_n (i := 0) rfl rfl d_M_leave_48 <|
  gM_222 rfl d_M_leave_49 <|
  J_imul d_M_leave_52 <|
  J_iconst (v := (nI 5)) d_M_leave_53 (by decide) <|
  J_iadd d_M_leave_54 <|
  J_iald ((((((h).1 c3)) t1 et1)).2).1 d_M_leave_55 <|
  J_iast (((((((h).1 c3)) t1 et1)).2).2).1 d_M_leave_56 <|
  J_vret rfl d_M_leave_57 ((((((((h).1 c3)) t1 et1)).2).2).2))) (fun c3 =>
  J_vret rfl d_M_leave_8 (((h).2 c3)))
theorem r_M_isIn_0 {Q : Option mV → mS → Prop} {σ : mS} {x1 x2 : Int32} (h : (x1 < (0 : Int32) → (Q (some (.inl (1 : Int32))) σ)) ∧ (¬ x1 < (0 : Int32) → (vp_in x1 30 ∧ ((¬ ((x2 >>> ((σ 50 x1.toNatClampNeg) &&& 31)) &&& (1 : Int32)) = (1 : Int32) → (Q (some (.inl (0 : Int32))) σ)) ∧ (((x2 >>> ((σ 50 x1.toNatClampNeg) &&& 31)) &&& (1 : Int32)) = (1 : Int32) → (Q (some (.inl (1 : Int32))) σ)))))) : J M_M_isIn Q 0 [some (.inr (25, 0)), some (.inl x1), some (.inl x2)] [] σ :=
  J_iload_n (i := 1) rfl rfl d_M_isIn_0 <|
  J_if_lt (tgt := 18) d_M_isIn_1 (by decide) (fun c2 =>
  J_iconst (v := (1 : Int32)) d_M_isIn_18 (by decide) <|
  J_goto (tgt := 23) d_M_isIn_19 (by decide) <|
  J_zret rfl (Or.inr rfl) d_M_isIn_23 (((h).1 c2))) (fun c2 =>
  J_iload_n (i := 2) rfl rfl d_M_isIn_4 <|
  J_aload_n (i := 0) rfl rfl d_M_isIn_5 <|
  gM_82 rfl d_M_isIn_6 <|
  J_iload_n (i := 1) rfl rfl d_M_isIn_9 <|
  J_iald (((h).2 c2)).1 d_M_isIn_10 <|
  J_ishr d_M_isIn_11 <|
  J_iconst (v := (1 : Int32)) d_M_isIn_12 (by decide) <|
  J_iand d_M_isIn_13 <|
  J_iconst (v := (1 : Int32)) d_M_isIn_14 (by decide) <|
  J_icmp_ne (tgt := 22) d_M_isIn_15 (by decide) (fun c1 =>
  J_iconst (v := (0 : Int32)) d_M_isIn_22 (by decide) <|
  J_zret rfl (Or.inl rfl) d_M_isIn_23 ((((((h).2 c2)).2).1 c1))) (fun c1 =>
  J_iconst (v := (1 : Int32)) d_M_isIn_18 (by decide) <|
  J_goto (tgt := 23) d_M_isIn_19 (by decide) <|
  J_zret rfl (Or.inr rfl) d_M_isIn_23 ((((((h).2 c2)).2).2 c1))))
theorem r_M_holds_0 {Q : Option mV → mS → Prop} {σ : mS} (h : J M_M_holds Q 11 [some (.inr (25, 0)), some (.inl (1 : Int32)), some (.inl ((σ 25 37) - (1 : Int32))), some (.inl (0 : Int32)), none] [] σ) : J M_M_holds Q 0 [some (.inr (25, 0)), none, none, none, none] [] σ :=
  J_iconst (v := (1 : Int32)) d_M_holds_0 (by decide) <|
  J_istore_n (i := 1) (ls' := [some (.inr (25, 0)), some (.inl (1 : Int32)), none, none, none]) rfl rfl rfl rfl d_M_holds_1 <|
  J_aload_n (i := 0) rfl rfl d_M_holds_2 <|
  gM_222 rfl d_M_holds_3 <|
  J_iconst (v := (1 : Int32)) d_M_holds_6 (by decide) <|
  J_isub d_M_holds_7 <|
  J_istore_n (i := 2) (ls' := [some (.inr (25, 0)), some (.inl (1 : Int32)), some (.inl ((σ 25 37) - (1 : Int32))), none, none]) rfl rfl rfl rfl d_M_holds_8 <|
  J_iconst (v := (0 : Int32)) d_M_holds_9 (by decide) <|
  J_istore_n (i := 3) (ls' := [some (.inr (25, 0)), some (.inl (1 : Int32)), some (.inl ((σ 25 37) - (1 : Int32))), some (.inl (0 : Int32)), none]) rfl rfl rfl rfl d_M_holds_10 <|
  h
theorem r_M_holds_11 {Q : Option mV → mS → Prop} {σ : mS} {x1 x2 x3 : Int32} {u4 : Option mV} (h : ((nI 6) ≤ x3 → (J M_M_holds Q 115 [some (.inr (25, 0)), some (.inl x1), some (.inl x2), some (.inl (0 : Int32)), u4] [] σ)) ∧ (¬ (nI 6) ≤ x3 → (vp_in (((nI 6) * x2) + x3) 60 ∧ (∀ v2, v2 = (σ 57 (((nI 6) * x2) + x3).toNatClampNeg) → ((x1 = (0 : Int32) → (J M_M_holds Q 69 [some (.inr (25, 0)), some (.inl x1), some (.inl x2), some (.inl x3), some (.inl v2)] [.inl (0 : Int32)] σ)) ∧ (¬ x1 = (0 : Int32) → (vp_in x2 10 ∧ (vp_in x2 10 ∧ (MU M_M_nameAt [.inl (σ 54 x2.toNatClampNeg), .inl (σ 55 x2.toNatClampNeg), .inl x3] σ (fun r s3 => ∃ r5, r = some (.inl r5) ∧ (vp_in r5 1260 ∧ (MU M_M_isIn [.inr (25, 0), .inl v2, .inl (s3 39 r5.toNatClampNeg)] s3 (fun r s6 => ∃ r8, r = some (.inl r8) ∧ ((r8 = (0 : Int32) → (J M_M_holds Q 69 [some (.inr (25, 0)), some (.inl x1), some (.inl x2), some (.inl x3), some (.inl v2)] [.inl (0 : Int32)] s6)) ∧ (¬ r8 = (0 : Int32) → (J M_M_holds Q 69 [some (.inr (25, 0)), some (.inl x1), some (.inl x2), some (.inl x3), some (.inl v2)] [.inl (1 : Int32)] s6)))))))))))))))) : J M_M_holds Q 11 [some (.inr (25, 0)), some (.inl x1), some (.inl x2), some (.inl x3), u4] [] σ :=
  J_iload_n (i := 3) rfl rfl d_M_holds_11 <|
  J_bipush (v := (nI 6)) d_M_holds_12 (by decide) <|
  J_icmp_ge (tgt := 113) d_M_holds_14 (by decide) (fun c11 =>
  J_iconst (v := (0 : Int32)) d_M_holds_113 (by decide) <|
  J_istore_n (i := 3) (ls' := [some (.inr (25, 0)), some (.inl x1), some (.inl x2), some (.inl (0 : Int32)), u4]) rfl rfl rfl rfl d_M_holds_114 <|
  ((h).1 c11)) (fun c11 =>
  J_aload_n (i := 0) rfl rfl d_M_holds_17 <|
  gM_103 rfl d_M_holds_18 <|
  J_bipush (v := (nI 6)) d_M_holds_21 (by decide) <|
  J_iload_n (i := 2) rfl rfl d_M_holds_23 <|
  J_imul d_M_holds_24 <|
  J_iload_n (i := 3) rfl rfl d_M_holds_25 <|
  J_iadd d_M_holds_26 <|
  J_iald (((h).2 c11)).1 d_M_holds_27 <|
  J_namei (fun v2 ev2 =>
  J_istore (i := 4) (ls' := [some (.inr (25, 0)), some (.inl x1), some (.inl x2), some (.inl x3), some (.inl v2)]) rfl rfl rfl d_M_holds_28 <|
  J_iload_n (i := 1) rfl rfl d_M_holds_30 <|
  J_if_eq (tgt := 68) d_M_holds_31 (by decide) (fun c10 =>
  J_iconst (v := (0 : Int32)) d_M_holds_68 (by decide) <|
  (((((((h).2 c11)).2) v2 ev2)).1 c10)) (fun c10 =>
  J_aload_n (i := 0) rfl rfl d_M_holds_34 <|
  J_iload (i := 4) rfl d_M_holds_35 <|
  J_aload_n (i := 0) rfl rfl d_M_holds_37 <|
  gM_49 rfl d_M_holds_38 <|
  J_aload_n (i := 0) rfl rfl d_M_holds_41 <|
  gM_94 rfl d_M_holds_42 <|
  J_iload_n (i := 2) rfl rfl d_M_holds_45 <|
  J_iald ((((((((h).2 c11)).2) v2 ev2)).2 c10)).1 d_M_holds_46 <|
  J_aload_n (i := 0) rfl rfl d_M_holds_47 <|
  gM_97 rfl d_M_holds_48 <|
  J_iload_n (i := 2) rfl rfl d_M_holds_51 <|
  J_iald (((((((((h).2 c11)).2) v2 ev2)).2 c10)).2).1 d_M_holds_52 <|
  J_iload_n (i := 3) rfl rfl d_M_holds_53 <|
  kM_166_i rfl rfl rfl (args := [.inl (σ 54 x2.toNatClampNeg), .inl (σ 55 x2.toNatClampNeg), .inl x3]) ((((((((((h).2 c11)).2) v2 ev2)).2 c10)).2).2) d_M_holds_54 (fun r5 s3 h4 =>
  J_iald (h4).1 d_M_holds_57 <|
  kM_241_i rfl rfl rfl (args := [.inl v2, .inl (s3 39 r5.toNatClampNeg)]) ((h4).2) d_M_holds_58 (fun r8 s6 h7 =>
  J_if_eq (tgt := 68) d_M_holds_61 (by decide) (fun c9 =>
  J_iconst (v := (0 : Int32)) d_M_holds_68 (by decide) <|
  ((h7).1 c9)) (fun c9 =>
  J_iconst (v := (1 : Int32)) d_M_holds_64 (by decide) <|
  J_goto (tgt := 69) d_M_holds_65 (by decide) <|
  ((h7).2 c9)))))))
theorem r_M_holds_69 {Q : Option mV → mS → Prop} {σ : mS} {x2 x3 x4 y0 : Int32} {u1 : Option mV} (h : vp_in x2 10 ∧ (vp_in (((nI 6) * (σ 54 x2.toNatClampNeg)) + x3) 60 ∧ (((0 : Int32) ≤ x4 → (vp_in x4 30 ∧ (vp_in (((nI 6) * (σ 54 x2.toNatClampNeg)) + x3) 60 ∧ (J M_M_holds Q 11 [some (.inr (25, 0)), some (.inl y0), some (.inl x2), some (.inl (x3 + 1)), some (.inl x4)] [] (m_up σ 58 (((nI 6) * (σ 54 x2.toNatClampNeg)) + x3).toNatClampNeg ((σ 58 (((nI 6) * (σ 54 x2.toNatClampNeg)) + x3).toNatClampNeg) ||| ((1 : Int32) <<< ((σ 50 x4.toNatClampNeg) &&& 31)))))))) ∧ (¬ (0 : Int32) ≤ x4 → (vp_in (((nI 6) * (σ 54 x2.toNatClampNeg)) + x3) 60 ∧ (J M_M_holds Q 11 [some (.inr (25, 0)), some (.inl y0), some (.inl x2), some (.inl (x3 + 1)), some (.inl x4)] [] (m_up σ 58 (((nI 6) * (σ 54 x2.toNatClampNeg)) + x3).toNatClampNeg ((σ 58 (((nI 6) * (σ 54 x2.toNatClampNeg)) + x3).toNatClampNeg) ||| (0 : Int32))))))))) : J M_M_holds Q 69 [some (.inr (25, 0)), u1, some (.inl x2), some (.inl x3), some (.inl x4)] [.inl y0] σ :=
  J_istore_n (i := 1) (ls' := [some (.inr (25, 0)), some (.inl y0), some (.inl x2), some (.inl x3), some (.inl x4)]) rfl rfl rfl rfl d_M_holds_69 <|
  J_aload_n (i := 0) rfl rfl d_M_holds_70 <|
  gM_106 rfl d_M_holds_71 <|
  J_bipush (v := (nI 6)) d_M_holds_74 (by decide) <|
  J_aload_n (i := 0) rfl rfl d_M_holds_76 <|
  gM_94 rfl d_M_holds_77 <|
  J_iload_n (i := 2) rfl rfl d_M_holds_80 <|
  J_iald (h).1 d_M_holds_81 <|
  J_imul d_M_holds_82 <|
  J_iload_n (i := 3) rfl rfl d_M_holds_83 <|
  J_iadd d_M_holds_84 <|
  J_dup2 d_M_holds_85 <|
  J_iald ((h).2).1 d_M_holds_86 <|
  J_iload (i := 4) rfl d_M_holds_87 <|
  J_if_ge (tgt := 96) d_M_holds_89 (by decide) (fun c14 =>
  J_iconst (v := (1 : Int32)) d_M_holds_96 (by decide) <|
  J_aload_n (i := 0) rfl rfl d_M_holds_97 <|
  gM_82 rfl d_M_holds_98 <|
  J_iload (i := 4) rfl d_M_holds_101 <|
  J_iald (((((h).2).2).1 c14)).1 d_M_holds_103 <|
  J_ishl d_M_holds_104 <|
  J_ior d_M_holds_105 <|
  J_iast ((((((h).2).2).1 c14)).2).1 d_M_holds_106 <|
  J_iinc (i := 3) (v := (x3 + 1)) (ls' := [some (.inr (25, 0)), some (.inl y0), some (.inl x2), some (.inl (x3 + 1)), some (.inl x4)]) rfl rfl rfl rfl rfl d_M_holds_107 <|
  J_goto (tgt := 11) d_M_holds_110 (by decide) <|
  ((((((h).2).2).1 c14)).2).2) (fun c14 =>
  J_iconst (v := (0 : Int32)) d_M_holds_92 (by decide) <|
  J_goto (tgt := 105) d_M_holds_93 (by decide) <|
  J_ior d_M_holds_105 <|
  J_iast (((((h).2).2).2 c14)).1 d_M_holds_106 <|
  J_iinc (i := 3) (v := (x3 + 1)) (ls' := [some (.inr (25, 0)), some (.inl y0), some (.inl x2), some (.inl (x3 + 1)), some (.inl x4)]) rfl rfl rfl rfl rfl d_M_holds_107 <|
  J_goto (tgt := 11) d_M_holds_110 (by decide) <|
  (((((h).2).2).2 c14)).2)
theorem r_M_holds_115 {Q : Option mV → mS → Prop} {σ : mS} {x1 x3 : Int32} {u2 u4 : Option mV} (h : ((nI 4) ≤ x3 → (J M_M_holds Q 157 [some (.inr (25, 0)), some (.inl x1), u2, some (.inl (0 : Int32)), u4] [] σ)) ∧ (¬ (nI 4) ≤ x3 → ((x1 = (0 : Int32) → (J M_M_holds Q 115 [some (.inr (25, 0)), some (.inl (0 : Int32)), u2, some (.inl (x3 + 1)), u4] [] σ)) ∧ (¬ x1 = (0 : Int32) → (vp_in x3 4 ∧ (vp_in x3 4 ∧ (MU M_M_isIn [.inr (25, 0), .inl (σ 53 x3.toNatClampNeg), .inl (σ 45 x3.toNatClampNeg)] σ (fun r s15 => ∃ r17, r = some (.inl r17) ∧ ((r17 = (0 : Int32) → (J M_M_holds Q 115 [some (.inr (25, 0)), some (.inl (0 : Int32)), u2, some (.inl (x3 + 1)), u4] [] s15)) ∧ (¬ r17 = (0 : Int32) → (J M_M_holds Q 115 [some (.inr (25, 0)), some (.inl (1 : Int32)), u2, some (.inl (x3 + 1)), u4] [] s15))))))))))) : J M_M_holds Q 115 [some (.inr (25, 0)), some (.inl x1), u2, some (.inl x3), u4] [] σ :=
  J_iload_n (i := 3) rfl rfl d_M_holds_115 <|
  J_iconst (v := (nI 4)) d_M_holds_116 (by decide) <|
  J_icmp_ge (tgt := 155) d_M_holds_117 (by decide) (fun c20 =>
  J_iconst (v := (0 : Int32)) d_M_holds_155 (by decide) <|
  J_istore_n (i := 3) (ls' := [some (.inr (25, 0)), some (.inl x1), u2, some (.inl (0 : Int32)), u4]) rfl rfl rfl rfl d_M_holds_156 <|
  ((h).1 c20)) (fun c20 =>
  J_iload_n (i := 1) rfl rfl d_M_holds_120 <|
  J_if_eq (tgt := 147) d_M_holds_121 (by decide) (fun c19 =>
  J_iconst (v := (0 : Int32)) d_M_holds_147 (by decide) <|
  J_istore_n (i := 1) (ls' := [some (.inr (25, 0)), some (.inl (0 : Int32)), u2, some (.inl x3), u4]) rfl rfl rfl rfl d_M_holds_148 <|
  J_iinc (i := 3) (v := (x3 + 1)) (ls' := [some (.inr (25, 0)), some (.inl (0 : Int32)), u2, some (.inl (x3 + 1)), u4]) rfl rfl rfl rfl rfl d_M_holds_149 <|
  J_goto (tgt := 115) d_M_holds_152 (by decide) <|
  ((((h).2 c20)).1 c19)) (fun c19 =>
  J_aload_n (i := 0) rfl rfl d_M_holds_124 <|
  J_aload_n (i := 0) rfl rfl d_M_holds_125 <|
  gM_91 rfl d_M_holds_126 <|
  J_iload_n (i := 3) rfl rfl d_M_holds_129 <|
  J_iald (((((h).2 c20)).2 c19)).1 d_M_holds_130 <|
  J_aload_n (i := 0) rfl rfl d_M_holds_131 <|
  gM_67 rfl d_M_holds_132 <|
  J_iload_n (i := 3) rfl rfl d_M_holds_135 <|
  J_iald ((((((h).2 c20)).2 c19)).2).1 d_M_holds_136 <|
  kM_241_i rfl rfl rfl (args := [.inl (σ 53 x3.toNatClampNeg), .inl (σ 45 x3.toNatClampNeg)]) (((((((h).2 c20)).2 c19)).2).2) d_M_holds_137 (fun r17 s15 h16 =>
  J_if_eq (tgt := 147) d_M_holds_140 (by decide) (fun c18 =>
  J_iconst (v := (0 : Int32)) d_M_holds_147 (by decide) <|
  J_istore_n (i := 1) (ls' := [some (.inr (25, 0)), some (.inl (0 : Int32)), u2, some (.inl x3), u4]) rfl rfl rfl rfl d_M_holds_148 <|
  J_iinc (i := 3) (v := (x3 + 1)) (ls' := [some (.inr (25, 0)), some (.inl (0 : Int32)), u2, some (.inl (x3 + 1)), u4]) rfl rfl rfl rfl rfl d_M_holds_149 <|
  J_goto (tgt := 115) d_M_holds_152 (by decide) <|
  ((h16).1 c18)) (fun c18 =>
  J_iconst (v := (1 : Int32)) d_M_holds_143 (by decide) <|
  J_goto (tgt := 148) d_M_holds_144 (by decide) <|
  J_istore_n (i := 1) (ls' := [some (.inr (25, 0)), some (.inl (1 : Int32)), u2, some (.inl x3), u4]) rfl rfl rfl rfl d_M_holds_148 <|
  J_iinc (i := 3) (v := (x3 + 1)) (ls' := [some (.inr (25, 0)), some (.inl (1 : Int32)), u2, some (.inl (x3 + 1)), u4]) rfl rfl rfl rfl rfl d_M_holds_149 <|
  J_goto (tgt := 115) d_M_holds_152 (by decide) <|
  ((h16).2 c18)))))
theorem r_M_holds_157 {Q : Option mV → mS → Prop} {σ : mS} {x1 x3 : Int32} {u2 u4 : Option mV} (h : ((σ 25 32) ≤ x3 → ((x1 = 0 ∨ x1 = 1) ∧ Q (some (.inl x1)) σ)) ∧ (¬ (σ 25 32) ≤ x3 → ((x1 = (0 : Int32) → (J M_M_holds Q 202 [some (.inr (25, 0)), some (.inl (0 : Int32)), u2, some (.inl x3), some (.inl (0 : Int32))] [] σ)) ∧ (¬ x1 = (0 : Int32) → (vp_in x3 30 ∧ (vp_in x3 30 ∧ (vp_in (σ 50 x3.toNatClampNeg) 20 ∧ (MU M_M_isIn [.inr (25, 0), .inl (σ 52 x3.toNatClampNeg), .inl (σ 43 (σ 50 x3.toNatClampNeg).toNatClampNeg)] σ (fun r s21 => ∃ r23, r = some (.inl r23) ∧ ((r23 = (0 : Int32) → (J M_M_holds Q 202 [some (.inr (25, 0)), some (.inl (0 : Int32)), u2, some (.inl x3), some (.inl (0 : Int32))] [] s21)) ∧ (¬ r23 = (0 : Int32) → (J M_M_holds Q 202 [some (.inr (25, 0)), some (.inl (1 : Int32)), u2, some (.inl x3), some (.inl (0 : Int32))] [] s21)))))))))))) : J M_M_holds Q 157 [some (.inr (25, 0)), some (.inl x1), u2, some (.inl x3), u4] [] σ :=
  J_iload_n (i := 3) rfl rfl d_M_holds_157 <|
  J_aload_n (i := 0) rfl rfl d_M_holds_158 <|
  gM_219 rfl d_M_holds_159 <|
  J_icmp_ge (tgt := 269) d_M_holds_162 (by decide) (fun c26 =>
  J_iload_n (i := 1) rfl rfl d_M_holds_269 <|
  J_zret rfl (((h).1 c26)).1 d_M_holds_270 (((h).1 c26)).2) (fun c26 =>
  J_iload_n (i := 1) rfl rfl d_M_holds_165 <|
  J_if_eq (tgt := 197) d_M_holds_166 (by decide) (fun c25 =>
  J_iconst (v := (0 : Int32)) d_M_holds_197 (by decide) <|
  J_istore_n (i := 1) (ls' := [some (.inr (25, 0)), some (.inl (0 : Int32)), u2, some (.inl x3), u4]) rfl rfl rfl rfl d_M_holds_198 <|
  J_iconst (v := (0 : Int32)) d_M_holds_199 (by decide) <|
  J_istore (i := 4) (ls' := [some (.inr (25, 0)), some (.inl (0 : Int32)), u2, some (.inl x3), some (.inl (0 : Int32))]) rfl rfl rfl d_M_holds_200 <|
  ((((h).2 c26)).1 c25)) (fun c25 =>
  J_aload_n (i := 0) rfl rfl d_M_holds_169 <|
  J_aload_n (i := 0) rfl rfl d_M_holds_170 <|
  gM_88 rfl d_M_holds_171 <|
  J_iload_n (i := 3) rfl rfl d_M_holds_174 <|
  J_iald (((((h).2 c26)).2 c25)).1 d_M_holds_175 <|
  J_aload_n (i := 0) rfl rfl d_M_holds_176 <|
  gM_61 rfl d_M_holds_177 <|
  J_aload_n (i := 0) rfl rfl d_M_holds_180 <|
  gM_82 rfl d_M_holds_181 <|
  J_iload_n (i := 3) rfl rfl d_M_holds_184 <|
  J_iald ((((((h).2 c26)).2 c25)).2).1 d_M_holds_185 <|
  J_iald (((((((h).2 c26)).2 c25)).2).2).1 d_M_holds_186 <|
  kM_241_i rfl rfl rfl (args := [.inl (σ 52 x3.toNatClampNeg), .inl (σ 43 (σ 50 x3.toNatClampNeg).toNatClampNeg)]) ((((((((h).2 c26)).2 c25)).2).2).2) d_M_holds_187 (fun r23 s21 h22 =>
  J_if_eq (tgt := 197) d_M_holds_190 (by decide) (fun c24 =>
  J_iconst (v := (0 : Int32)) d_M_holds_197 (by decide) <|
  J_istore_n (i := 1) (ls' := [some (.inr (25, 0)), some (.inl (0 : Int32)), u2, some (.inl x3), u4]) rfl rfl rfl rfl d_M_holds_198 <|
  J_iconst (v := (0 : Int32)) d_M_holds_199 (by decide) <|
  J_istore (i := 4) (ls' := [some (.inr (25, 0)), some (.inl (0 : Int32)), u2, some (.inl x3), some (.inl (0 : Int32))]) rfl rfl rfl d_M_holds_200 <|
  ((h22).1 c24)) (fun c24 =>
  J_iconst (v := (1 : Int32)) d_M_holds_193 (by decide) <|
  J_goto (tgt := 198) d_M_holds_194 (by decide) <|
  J_istore_n (i := 1) (ls' := [some (.inr (25, 0)), some (.inl (1 : Int32)), u2, some (.inl x3), u4]) rfl rfl rfl rfl d_M_holds_198 <|
  J_iconst (v := (0 : Int32)) d_M_holds_199 (by decide) <|
  J_istore (i := 4) (ls' := [some (.inr (25, 0)), some (.inl (1 : Int32)), u2, some (.inl x3), some (.inl (0 : Int32))]) rfl rfl rfl d_M_holds_200 <|
  ((h22).2 c24)))))
theorem r_M_holds_202 {Q : Option mV → mS → Prop} {σ : mS} {x1 x3 x4 : Int32} {u2 : Option mV} (h : ((σ 25 2) ≤ x4 → (J M_M_holds Q 157 [some (.inr (25, 0)), some (.inl x1), u2, some (.inl (x3 + 1)), some (.inl x4)] [] σ)) ∧ (¬ (σ 25 2) ≤ x4 → ((x1 = (0 : Int32) → (J M_M_holds Q 202 [some (.inr (25, 0)), some (.inl (0 : Int32)), u2, some (.inl x3), some (.inl (x4 + 1))] [] σ)) ∧ (¬ x1 = (0 : Int32) → (vp_in (((nI 8) * x3) + x4) 240 ∧ (vp_in x3 30 ∧ (vp_in (((nI 8) * (σ 50 x3.toNatClampNeg)) + x4) 160 ∧ (MU M_M_isIn [.inr (25, 0), .inl (σ 51 (((nI 8) * x3) + x4).toNatClampNeg), .inl (σ 41 (((nI 8) * (σ 50 x3.toNatClampNeg)) + x4).toNatClampNeg)] σ (fun r s27 => ∃ r29, r = some (.inl r29) ∧ ((r29 = (0 : Int32) → (J M_M_holds Q 202 [some (.inr (25, 0)), some (.inl (0 : Int32)), u2, some (.inl x3), some (.inl (x4 + 1))] [] s27)) ∧ (¬ r29 = (0 : Int32) → (J M_M_holds Q 202 [some (.inr (25, 0)), some (.inl (1 : Int32)), u2, some (.inl x3), some (.inl (x4 + 1))] [] s27)))))))))))) : J M_M_holds Q 202 [some (.inr (25, 0)), some (.inl x1), u2, some (.inl x3), some (.inl x4)] [] σ :=
  J_iload (i := 4) rfl d_M_holds_202 <|
  J_aload_n (i := 0) rfl rfl d_M_holds_204 <|
  gM_113 rfl d_M_holds_205 <|
  J_icmp_ge (tgt := 263) d_M_holds_208 (by decide) (fun c32 =>
  J_iinc (i := 3) (v := (x3 + 1)) (ls' := [some (.inr (25, 0)), some (.inl x1), u2, some (.inl (x3 + 1)), some (.inl x4)]) rfl rfl rfl rfl rfl d_M_holds_263 <|
  J_goto (tgt := 157) d_M_holds_266 (by decide) <|
  ((h).1 c32)) (fun c32 =>
  J_iload_n (i := 1) rfl rfl d_M_holds_211 <|
  J_if_eq (tgt := 255) d_M_holds_212 (by decide) (fun c31 =>
  J_iconst (v := (0 : Int32)) d_M_holds_255 (by decide) <|
  J_istore_n (i := 1) (ls' := [some (.inr (25, 0)), some (.inl (0 : Int32)), u2, some (.inl x3), some (.inl x4)]) rfl rfl rfl rfl d_M_holds_256 <|
  J_iinc (i := 4) (v := (x4 + 1)) (ls' := [some (.inr (25, 0)), some (.inl (0 : Int32)), u2, some (.inl x3), some (.inl (x4 + 1))]) rfl rfl rfl rfl rfl d_M_holds_257 <|
  J_goto (tgt := 202) d_M_holds_260 (by decide) <|
  ((((h).2 c32)).1 c31)) (fun c31 =>
  J_aload_n (i := 0) rfl rfl d_M_holds_215 <|
  J_aload_n (i := 0) rfl rfl d_M_holds_216 <|
  gM_85 rfl d_M_holds_217 <|
  J_bipush (v := (nI 8)) d_M_holds_220 (by decide) <|
  J_iload_n (i := 3) rfl rfl d_M_holds_222 <|
  J_imul d_M_holds_223 <|
  J_iload (i := 4) rfl d_M_holds_224 <|
  J_iadd d_M_holds_226 <|
  J_iald (((((h).2 c32)).2 c31)).1 d_M_holds_227 <|
  J_aload_n (i := 0) rfl rfl d_M_holds_228 <|
  gM_55 rfl d_M_holds_229 <|
  J_bipush (v := (nI 8)) d_M_holds_232 (by decide) <|
  J_aload_n (i := 0) rfl rfl d_M_holds_234 <|
  gM_82 rfl d_M_holds_235 <|
  J_iload_n (i := 3) rfl rfl d_M_holds_238 <|
  J_iald ((((((h).2 c32)).2 c31)).2).1 d_M_holds_239 <|
  J_imul d_M_holds_240 <|
  J_iload (i := 4) rfl d_M_holds_241 <|
  J_iadd d_M_holds_243 <|
  J_iald (((((((h).2 c32)).2 c31)).2).2).1 d_M_holds_244 <|
  kM_241_i rfl rfl rfl (args := [.inl (σ 51 (((nI 8) * x3) + x4).toNatClampNeg), .inl (σ 41 (((nI 8) * (σ 50 x3.toNatClampNeg)) + x4).toNatClampNeg)]) ((((((((h).2 c32)).2 c31)).2).2).2) d_M_holds_245 (fun r29 s27 h28 =>
  J_if_eq (tgt := 255) d_M_holds_248 (by decide) (fun c30 =>
  J_iconst (v := (0 : Int32)) d_M_holds_255 (by decide) <|
  J_istore_n (i := 1) (ls' := [some (.inr (25, 0)), some (.inl (0 : Int32)), u2, some (.inl x3), some (.inl x4)]) rfl rfl rfl rfl d_M_holds_256 <|
  J_iinc (i := 4) (v := (x4 + 1)) (ls' := [some (.inr (25, 0)), some (.inl (0 : Int32)), u2, some (.inl x3), some (.inl (x4 + 1))]) rfl rfl rfl rfl rfl d_M_holds_257 <|
  J_goto (tgt := 202) d_M_holds_260 (by decide) <|
  ((h28).1 c30)) (fun c30 =>
  J_iconst (v := (1 : Int32)) d_M_holds_251 (by decide) <|
  J_goto (tgt := 256) d_M_holds_252 (by decide) <|
  J_istore_n (i := 1) (ls' := [some (.inr (25, 0)), some (.inl (1 : Int32)), u2, some (.inl x3), some (.inl x4)]) rfl rfl rfl rfl d_M_holds_256 <|
  J_iinc (i := 4) (v := (x4 + 1)) (ls' := [some (.inr (25, 0)), some (.inl (1 : Int32)), u2, some (.inl x3), some (.inl (x4 + 1))]) rfl rfl rfl rfl rfl d_M_holds_257 <|
  J_goto (tgt := 202) d_M_holds_260 (by decide) <|
  ((h28).2 c30)))))
theorem r_M_run_0 {Q : Option mV → mS → Prop} {σ : mS} {x1 x2 : Int32} (h : (x2 < (0 : Int32) → (Q (some (.inl (-nI 2))) σ)) ∧ (¬ x2 < (0 : Int32) → ((x2 ≤ (nI 300) → ((¬ (σ 25 4) = (0 : Int32) → (MU M_M_know [.inr (25, 0)] σ (fun r s1 => r = none ∧ (MU M_M_forgetRun [.inr (25, 0)] s1 (fun r s3 => r = none ∧ (J M_M_run Q 34 [some (.inr (25, 0)), some (.inl x1), some (.inl x2), some (.inl (0 : Int32)), none, none, none, none, none, none] [] s3)))))) ∧ ((σ 25 4) = (0 : Int32) → (Q (some (.inl (-nI 3))) σ)))) ∧ (¬ x2 ≤ (nI 300) → (Q (some (.inl (-nI 2))) σ))))) : J M_M_run Q 0 [some (.inr (25, 0)), some (.inl x1), some (.inl x2), none, none, none, none, none, none, none] [] σ :=
  J_iload_n (i := 2) rfl rfl d_M_run_0 <|
  J_if_lt (tgt := 11) d_M_run_1 (by decide) (fun c7 =>
  J_bipush (v := (-nI 2)) d_M_run_11 (by decide) <|
  J_iret rfl d_M_run_13 (((h).1 c7))) (fun c7 =>
  J_iload_n (i := 2) rfl rfl d_M_run_4 <|
  J_sipush (v := (nI 300)) d_M_run_5 (by decide) <|
  J_icmp_le (tgt := 14) d_M_run_8 (by decide) (fun c6 =>
  J_aload_n (i := 0) rfl rfl d_M_run_14 <|
  gM_116 rfl d_M_run_15 <|
  J_if_ne (tgt := 24) d_M_run_18 (by decide) (fun c5 =>
  J_aload_n (i := 0) rfl rfl d_M_run_24 <|
  kM_213_v rfl rfl rfl (args := []) (((((((h).2 c7)).1 c6)).1 c5)) d_M_run_25 (fun s1 h2 =>
  J_aload_n (i := 0) rfl rfl d_M_run_28 <|
  kM_131_v rfl rfl rfl (args := []) (h2) d_M_run_29 (fun s3 h4 =>
  J_iconst (v := (0 : Int32)) d_M_run_32 (by decide) <|
  J_istore_n (i := 3) (ls' := [some (.inr (25, 0)), some (.inl x1), some (.inl x2), some (.inl (0 : Int32)), none, none, none, none, none, none]) rfl rfl rfl rfl d_M_run_33 <|
  h4))) (fun c5 =>
  J_bipush (v := (-nI 3)) d_M_run_21 (by decide) <|
  J_iret rfl d_M_run_23 (((((((h).2 c7)).1 c6)).2 c5)))) (fun c6 =>
  J_bipush (v := (-nI 2)) d_M_run_11 (by decide) <|
  J_iret rfl d_M_run_13 (((((h).2 c7)).2 c6))))
theorem r_M_run_34 {Q : Option mV → mS → Prop} {σ : mS} {x1 x2 x3 : Int32} {u4 u5 u6 u7 u8 u9 : Option mV} (h : ((nI 4) ≤ x3 → (MU M_M_open [.inr (25, 0), .inl (0 : Int32), .inl (0 : Int32), .inl (0 : Int32)] σ (fun r s8 => r = none ∧ (J M_M_run Q 67 [some (.inr (25, 0)), some (.inl x1), some (.inl x2), some (.inl x1), some (.inl (1 : Int32)), some (.inl (0 : Int32)), u6, u7, u8, u9] [] s8)))) ∧ (¬ (nI 4) ≤ x3 → (vp_in x3 4 ∧ (J M_M_run Q 34 [some (.inr (25, 0)), some (.inl x1), some (.inl x2), some (.inl (x3 + 1)), u4, u5, u6, u7, u8, u9] [] (m_up σ 53 x3.toNatClampNeg (-1 : Int32)))))) : J M_M_run Q 34 [some (.inr (25, 0)), some (.inl x1), some (.inl x2), some (.inl x3), u4, u5, u6, u7, u8, u9] [] σ :=
  J_iload_n (i := 3) rfl rfl d_M_run_34 <|
  J_iconst (v := (nI 4)) d_M_run_35 (by decide) <|
  J_icmp_ge (tgt := 52) d_M_run_36 (by decide) (fun c11 =>
  J_aload_n (i := 0) rfl rfl d_M_run_52 <|
  J_iconst (v := (0 : Int32)) d_M_run_53 (by decide) <|
  J_iconst (v := (0 : Int32)) d_M_run_54 (by decide) <|
  J_iconst (v := (0 : Int32)) d_M_run_55 (by decide) <|
  kM_228_v rfl rfl rfl (args := [.inl (0 : Int32), .inl (0 : Int32), .inl (0 : Int32)]) (((h).1 c11)) d_M_run_56 (fun s8 h9 =>
  J_iload_n (i := 1) rfl rfl d_M_run_59 <|
  J_istore_n (i := 3) (ls' := [some (.inr (25, 0)), some (.inl x1), some (.inl x2), some (.inl x1), u4, u5, u6, u7, u8, u9]) rfl rfl rfl rfl d_M_run_60 <|
  J_iconst (v := (1 : Int32)) d_M_run_61 (by decide) <|
  J_istore (i := 4) (ls' := [some (.inr (25, 0)), some (.inl x1), some (.inl x2), some (.inl x1), some (.inl (1 : Int32)), u5, u6, u7, u8, u9]) rfl rfl rfl d_M_run_62 <|
  J_iconst (v := (0 : Int32)) d_M_run_64 (by decide) <|
  J_istore (i := 5) (ls' := [some (.inr (25, 0)), some (.inl x1), some (.inl x2), some (.inl x1), some (.inl (1 : Int32)), some (.inl (0 : Int32)), u6, u7, u8, u9]) rfl rfl rfl d_M_run_65 <|
  h9)) (fun c11 =>
  J_aload_n (i := 0) rfl rfl d_M_run_39 <|
  gM_91 rfl d_M_run_40 <|
  J_iload_n (i := 3) rfl rfl d_M_run_43 <|
  J_iconst (v := (-1 : Int32)) d_M_run_44 (by decide) <|
  J_iast (((h).2 c11)).1 d_M_run_45 <|
  J_iinc (i := 3) (v := (x3 + 1)) (ls' := [some (.inr (25, 0)), some (.inl x1), some (.inl x2), some (.inl (x3 + 1)), u4, u5, u6, u7, u8, u9]) rfl rfl rfl rfl rfl d_M_run_46 <|
  J_goto (tgt := 34) d_M_run_49 (by decide) <|
  (((h).2 c11)).2)
theorem r_M_run_67 {Q : Option mV → mS → Prop} {σ : mS} {x2 x3 x4 x5 : Int32} {u1 u6 u7 u8 u9 : Option mV} (h : (x2 ≤ x5 → ((x4 = (0 : Int32) → (Q (some (.inl (0 : Int32))) σ)) ∧ (¬ x4 = (0 : Int32) → (Q (some (.inl (1 : Int32))) σ)))) ∧ (¬ x2 ≤ x5 → (∀ v13, v13 = ((x3 * (nI 1664525)) + (nI 1013904223)) → (vp_in ((σ 25 37) - (1 : Int32)) 10 ∧ (∀ v14, v14 = (σ 54 ((σ 25 37) - (1 : Int32)).toNatClampNeg) → (MU M_M_many [.inr (25, 0), .inl v14] σ (fun r s15 => ∃ r17, r = some (.inl r17) ∧ ((¬ (r17 + (1 : Int32)) = 0) ∧ (∀ v18, v18 = (m_rem (m_ushr v13 (1 : Int32)) (r17 + (1 : Int32))) → ((r17 ≤ v18 → (MU M_M_leave [.inr (25, 0)] s15 (fun r s19 => r = none ∧ (J M_M_run Q 138 [some (.inr (25, 0)), u1, some (.inl x2), some (.inl v13), some (.inl x4), some (.inl x5), some (.inl v14), some (.inl r17), some (.inl v18), u9] [] s19)))) ∧ (¬ r17 ≤ v18 → (MU M_M_statementOf [.inr (25, 0), .inl v14, .inl v18] s15 (fun r s21 => ∃ r23, r = some (.inl r23) ∧ (MU M_M_act [.inr (25, 0), .inl r23] s21 (fun r s24 => r = none ∧ (J M_M_run Q 138 [some (.inr (25, 0)), u1, some (.inl x2), some (.inl v13), some (.inl x4), some (.inl x5), some (.inl v14), some (.inl r17), some (.inl v18), u9] [] s24)))))))))))))))) : J M_M_run Q 67 [some (.inr (25, 0)), u1, some (.inl x2), some (.inl x3), some (.inl x4), some (.inl x5), u6, u7, u8, u9] [] σ :=
  J_iload (i := 5) rfl d_M_run_67 <|
  J_iload_n (i := 2) rfl rfl d_M_run_69 <|
  J_icmp_ge (tgt := 167) d_M_run_70 (by decide) (fun c27 =>
  J_iload (i := 4) rfl d_M_run_167 <|
  J_if_eq (tgt := 176) d_M_run_169 (by decide) (fun c12 =>
  J_iconst (v := (0 : Int32)) d_M_run_176 (by decide) <|
  J_iret rfl d_M_run_177 (((((h).1 c27)).1 c12))) (fun c12 =>
  J_iconst (v := (1 : Int32)) d_M_run_172 (by decide) <|
  J_goto (tgt := 177) d_M_run_173 (by decide) <|
  J_iret rfl d_M_run_177 (((((h).1 c27)).2 c12)))) (fun c27 =>
  J_iload_n (i := 3) rfl rfl d_M_run_73 <|
  J_ldc (v := (nI 1664525)) ldc_M_244 rfl d_M_run_74 <|
  J_imul d_M_run_76 <|
  J_ldc (v := (nI 1013904223)) ldc_M_245 rfl d_M_run_77 <|
  J_iadd d_M_run_79 <|
  J_namei (fun v13 ev13 =>
  J_istore_n (i := 3) (ls' := [some (.inr (25, 0)), u1, some (.inl x2), some (.inl v13), some (.inl x4), some (.inl x5), u6, u7, u8, u9]) rfl rfl rfl rfl d_M_run_80 <|
  J_aload_n (i := 0) rfl rfl d_M_run_81 <|
  gM_94 rfl d_M_run_82 <|
  J_aload_n (i := 0) rfl rfl d_M_run_85 <|
  gM_222 rfl d_M_run_86 <|
  J_iconst (v := (1 : Int32)) d_M_run_89 (by decide) <|
  J_isub d_M_run_90 <|
  J_iald (((((h).2 c27)) v13 ev13)).1 d_M_run_91 <|
  J_namei (fun v14 ev14 =>
  J_istore (i := 6) (ls' := [some (.inr (25, 0)), u1, some (.inl x2), some (.inl v13), some (.inl x4), some (.inl x5), some (.inl v14), u7, u8, u9]) rfl rfl rfl d_M_run_92 <|
  J_aload_n (i := 0) rfl rfl d_M_run_94 <|
  J_iload (i := 6) rfl d_M_run_95 <|
  kM_246_i rfl rfl rfl (args := [.inl v14]) ((((((((h).2 c27)) v13 ev13)).2) v14 ev14)) d_M_run_97 (fun r17 s15 h16 =>
  J_istore (i := 7) (ls' := [some (.inr (25, 0)), u1, some (.inl x2), some (.inl v13), some (.inl x4), some (.inl x5), some (.inl v14), some (.inl r17), u8, u9]) rfl rfl rfl d_M_run_100 <|
  J_iload_n (i := 3) rfl rfl d_M_run_102 <|
  J_iconst (v := (1 : Int32)) d_M_run_103 (by decide) <|
  J_iushr d_M_run_104 <|
  J_iload (i := 7) rfl d_M_run_105 <|
  J_iconst (v := (1 : Int32)) d_M_run_107 (by decide) <|
  J_iadd d_M_run_108 <|
  J_irem d_M_run_109 (h16).1 <|
  J_namei (fun v18 ev18 =>
  J_istore (i := 8) (ls' := [some (.inr (25, 0)), u1, some (.inl x2), some (.inl v13), some (.inl x4), some (.inl x5), some (.inl v14), some (.inl r17), some (.inl v18), u9]) rfl rfl rfl d_M_run_110 <|
  J_iload (i := 8) rfl d_M_run_112 <|
  J_iload (i := 7) rfl d_M_run_114 <|
  J_icmp_ge (tgt := 134) d_M_run_116 (by decide) (fun c26 =>
  J_aload_n (i := 0) rfl rfl d_M_run_134 <|
  kM_256_v rfl rfl rfl (args := []) ((((((h16).2) v18 ev18)).1 c26)) d_M_run_135 (fun s19 h20 =>
  h20)) (fun c26 =>
  J_aload_n (i := 0) rfl rfl d_M_run_119 <|
  J_aload_n (i := 0) rfl rfl d_M_run_120 <|
  J_iload (i := 6) rfl d_M_run_121 <|
  J_iload (i := 8) rfl d_M_run_123 <|
  kM_250_i rfl rfl rfl (args := [.inl v14, .inl v18]) ((((((h16).2) v18 ev18)).2 c26)) d_M_run_125 (fun r23 s21 h22 =>
  kM_253_v rfl rfl rfl (args := [.inl r23]) (h22) d_M_run_128 (fun s24 h25 =>
  J_goto (tgt := 138) d_M_run_131 (by decide) <|
  h25))))))))
theorem r_M_run_138 {Q : Option mV → mS → Prop} {σ : mS} {x2 x3 x4 x5 : Int32} {u1 u6 u7 u8 u9 : Option mV} (h : MU M_M_holds [.inr (25, 0)] σ (fun r s28 => ∃ r30, r = some (.inl r30) ∧ ((x4 = (0 : Int32) → (J M_M_run Q 67 [some (.inr (25, 0)), u1, some (.inl x2), some (.inl x3), some (.inl (0 : Int32)), some (.inl (x5 + 1)), u6, u7, u8, some (.inl r30)] [] s28)) ∧ (¬ x4 = (0 : Int32) → ((r30 = (0 : Int32) → (J M_M_run Q 67 [some (.inr (25, 0)), u1, some (.inl x2), some (.inl x3), some (.inl (0 : Int32)), some (.inl (x5 + 1)), u6, u7, u8, some (.inl r30)] [] s28)) ∧ (¬ r30 = (0 : Int32) → (J M_M_run Q 67 [some (.inr (25, 0)), u1, some (.inl x2), some (.inl x3), some (.inl (1 : Int32)), some (.inl (x5 + 1)), u6, u7, u8, some (.inl r30)] [] s28))))))) : J M_M_run Q 138 [some (.inr (25, 0)), u1, some (.inl x2), some (.inl x3), some (.inl x4), some (.inl x5), u6, u7, u8, u9] [] σ :=
  J_aload_n (i := 0) rfl rfl d_M_run_138 <|
  kM_259_i rfl rfl rfl (args := []) (h) d_M_run_139 (fun r30 s28 h29 =>
  J_istore (i := 9) (ls' := [some (.inr (25, 0)), u1, some (.inl x2), some (.inl x3), some (.inl x4), some (.inl x5), u6, u7, u8, some (.inl r30)]) rfl rfl rfl d_M_run_142 <|
  J_iload (i := 4) rfl d_M_run_144 <|
  J_if_eq (tgt := 158) d_M_run_146 (by decide) (fun c32 =>
  J_iconst (v := (0 : Int32)) d_M_run_158 (by decide) <|
  J_istore (i := 4) (ls' := [some (.inr (25, 0)), u1, some (.inl x2), some (.inl x3), some (.inl (0 : Int32)), some (.inl x5), u6, u7, u8, some (.inl r30)]) rfl rfl rfl d_M_run_159 <|
  J_iinc (i := 5) (v := (x5 + 1)) (ls' := [some (.inr (25, 0)), u1, some (.inl x2), some (.inl x3), some (.inl (0 : Int32)), some (.inl (x5 + 1)), u6, u7, u8, some (.inl r30)]) rfl rfl rfl rfl rfl d_M_run_161 <|
  J_goto (tgt := 67) d_M_run_164 (by decide) <|
  ((h29).1 c32)) (fun c32 =>
  J_iload (i := 9) rfl d_M_run_149 <|
  J_if_eq (tgt := 158) d_M_run_151 (by decide) (fun c31 =>
  J_iconst (v := (0 : Int32)) d_M_run_158 (by decide) <|
  J_istore (i := 4) (ls' := [some (.inr (25, 0)), u1, some (.inl x2), some (.inl x3), some (.inl (0 : Int32)), some (.inl x5), u6, u7, u8, some (.inl r30)]) rfl rfl rfl d_M_run_159 <|
  J_iinc (i := 5) (v := (x5 + 1)) (ls' := [some (.inr (25, 0)), u1, some (.inl x2), some (.inl x3), some (.inl (0 : Int32)), some (.inl (x5 + 1)), u6, u7, u8, some (.inl r30)]) rfl rfl rfl rfl rfl d_M_run_161 <|
  J_goto (tgt := 67) d_M_run_164 (by decide) <|
  ((((h29).2 c32)).1 c31)) (fun c31 =>
  J_iconst (v := (1 : Int32)) d_M_run_154 (by decide) <|
  J_goto (tgt := 159) d_M_run_155 (by decide) <|
  J_istore (i := 4) (ls' := [some (.inr (25, 0)), u1, some (.inl x2), some (.inl x3), some (.inl (1 : Int32)), some (.inl x5), u6, u7, u8, some (.inl r30)]) rfl rfl rfl d_M_run_159 <|
  J_iinc (i := 5) (v := (x5 + 1)) (ls' := [some (.inr (25, 0)), u1, some (.inl x2), some (.inl x3), some (.inl (1 : Int32)), some (.inl (x5 + 1)), u6, u7, u8, some (.inl r30)]) rfl rfl rfl rfl rfl d_M_run_161 <|
  J_goto (tgt := 67) d_M_run_164 (by decide) <|
  ((((h29).2 c32)).2 c31))))
theorem r_M_met_0 {Q : Option mV → mS → Prop} {σ : mS} {x1 x2 : Int32} (h : MU M_M_isMethod [.inr (25, 0), .inl x1] σ (fun r s1 => ∃ r3, r = some (.inl r3) ∧ ((r3 = (0 : Int32) → (Q (some (.inl (-1 : Int32))) s1)) ∧ (¬ r3 = (0 : Int32) → (MU M_M_isName [.inl x2] s1 (fun r s4 => ∃ r6, r = some (.inl r6) ∧ ((r6 = (0 : Int32) → (Q (some (.inl (-1 : Int32))) s4)) ∧ (¬ r6 = (0 : Int32) → (vp_in (((nI 6) * x1) + x2) 60 ∧ (Q (some (.inl (s4 58 (((nI 6) * x1) + x2).toNatClampNeg))) s4)))))))))) : J M_M_met Q 0 [some (.inr (25, 0)), some (.inl x1), some (.inl x2)] [] σ :=
  J_aload_n (i := 0) rfl rfl d_M_met_0 <|
  J_iload_n (i := 1) rfl rfl d_M_met_1 <|
  kM_150_i rfl rfl rfl (args := [.inl x1]) (h) d_M_met_2 (fun r3 s1 h2 =>
  J_if_eq (tgt := 29) d_M_met_5 (by decide) (fun c8 =>
  J_iconst (v := (-1 : Int32)) d_M_met_29 (by decide) <|
  J_iret rfl d_M_met_30 (((h2).1 c8))) (fun c8 =>
  J_iload_n (i := 2) rfl rfl d_M_met_8 <|
  kM_141_i rfl rfl rfl (args := [.inl x2]) (((h2).2 c8)) d_M_met_9 (fun r6 s4 h5 =>
  J_if_eq (tgt := 29) d_M_met_12 (by decide) (fun c7 =>
  J_iconst (v := (-1 : Int32)) d_M_met_29 (by decide) <|
  J_iret rfl d_M_met_30 (((h5).1 c7))) (fun c7 =>
  J_aload_n (i := 0) rfl rfl d_M_met_15 <|
  gM_106 rfl d_M_met_16 <|
  J_bipush (v := (nI 6)) d_M_met_19 (by decide) <|
  J_iload_n (i := 1) rfl rfl d_M_met_21 <|
  J_imul d_M_met_22 <|
  J_iload_n (i := 2) rfl rfl d_M_met_23 <|
  J_iadd d_M_met_24 <|
  J_iald (((h5).2 c7)).1 d_M_met_25 <|
  J_goto (tgt := 30) d_M_met_26 (by decide) <|
  J_iret rfl d_M_met_30 ((((h5).2 c7)).2)))))
theorem r_M_ran_0 {Q : Option mV → mS → Prop} {σ : mS} {x1 : Int32} (h : (¬ x1 = (0 : Int32) → ((¬ x1 = (1 : Int32) → ((¬ x1 = (nI 2) → (Q (some (.inl (-nI 2))) σ)) ∧ (x1 = (nI 2) → (Q (some (.inl (σ 25 43))) σ)))) ∧ (x1 = (1 : Int32) → (Q (some (.inl (σ 25 37))) σ)))) ∧ (x1 = (0 : Int32) → (Q (some (.inl (σ 25 32))) σ))) : J M_M_ran Q 0 [some (.inr (25, 0)), some (.inl x1)] [] σ :=
  J_iload_n (i := 1) rfl rfl d_M_ran_0 <|
  J_if_ne (tgt := 11) d_M_ran_1 (by decide) (fun c3 =>
  J_iload_n (i := 1) rfl rfl d_M_ran_11 <|
  J_iconst (v := (1 : Int32)) d_M_ran_12 (by decide) <|
  J_icmp_ne (tgt := 23) d_M_ran_13 (by decide) (fun c2 =>
  J_iload_n (i := 1) rfl rfl d_M_ran_23 <|
  J_iconst (v := (nI 2)) d_M_ran_24 (by decide) <|
  J_icmp_ne (tgt := 35) d_M_ran_25 (by decide) (fun c1 =>
  J_bipush (v := (-nI 2)) d_M_ran_35 (by decide) <|
  J_iret rfl d_M_ran_37 (((((((h).1 c3)).1 c2)).1 c1))) (fun c1 =>
  J_aload_n (i := 0) rfl rfl d_M_ran_28 <|
  gM_225 rfl d_M_ran_29 <|
  J_goto (tgt := 37) d_M_ran_32 (by decide) <|
  J_iret rfl d_M_ran_37 (((((((h).1 c3)).1 c2)).2 c1)))) (fun c2 =>
  J_aload_n (i := 0) rfl rfl d_M_ran_16 <|
  gM_222 rfl d_M_ran_17 <|
  J_goto (tgt := 37) d_M_ran_20 (by decide) <|
  J_iret rfl d_M_ran_37 (((((h).1 c3)).2 c2)))) (fun c3 =>
  J_aload_n (i := 0) rfl rfl d_M_ran_4 <|
  gM_219 rfl d_M_ran_5 <|
  J_goto (tgt := 37) d_M_ran_8 (by decide) <|
  J_iret rfl d_M_ran_37 (((h).2 c3)))
theorem r_P_hasClass_0 {Q : Option mV → mS → Prop} {σ : mS} {x1 : Int32} (h : (x1 < (0 : Int32) → (Q (some (.inl (0 : Int32))) σ)) ∧ (¬ x1 < (0 : Int32) → (((σ 1 0) ≤ x1 → (Q (some (.inl (0 : Int32))) σ)) ∧ (¬ (σ 1 0) ≤ x1 → (Q (some (.inl (1 : Int32))) σ))))) : J M_P_hasClass Q 0 [some (.inr (1, 0)), some (.inl x1)] [] σ :=
  J_iload_n (i := 1) rfl rfl d_P_hasClass_0 <|
  J_if_lt (tgt := 16) d_P_hasClass_1 (by decide) (fun c2 =>
  J_iconst (v := (0 : Int32)) d_P_hasClass_16 (by decide) <|
  J_zret rfl (Or.inl rfl) d_P_hasClass_17 (((h).1 c2))) (fun c2 =>
  J_iload_n (i := 1) rfl rfl d_P_hasClass_4 <|
  J_aload_n (i := 0) rfl rfl d_P_hasClass_5 <|
  gP_46 rfl d_P_hasClass_6 <|
  J_icmp_ge (tgt := 16) d_P_hasClass_9 (by decide) (fun c1 =>
  J_iconst (v := (0 : Int32)) d_P_hasClass_16 (by decide) <|
  J_zret rfl (Or.inl rfl) d_P_hasClass_17 (((((h).2 c2)).1 c1))) (fun c1 =>
  J_iconst (v := (1 : Int32)) d_P_hasClass_12 (by decide) <|
  J_goto (tgt := 17) d_P_hasClass_13 (by decide) <|
  J_zret rfl (Or.inr rfl) d_P_hasClass_17 (((((h).2 c2)).2 c1))))
theorem r_P_hasField_0 {Q : Option mV → mS → Prop} {σ : mS} {x1 : Int32} (h : (x1 < (0 : Int32) → (Q (some (.inl (0 : Int32))) σ)) ∧ (¬ x1 < (0 : Int32) → (((σ 1 1) ≤ x1 → (Q (some (.inl (0 : Int32))) σ)) ∧ (¬ (σ 1 1) ≤ x1 → (Q (some (.inl (1 : Int32))) σ))))) : J M_P_hasField Q 0 [some (.inr (1, 0)), some (.inl x1)] [] σ :=
  J_iload_n (i := 1) rfl rfl d_P_hasField_0 <|
  J_if_lt (tgt := 16) d_P_hasField_1 (by decide) (fun c2 =>
  J_iconst (v := (0 : Int32)) d_P_hasField_16 (by decide) <|
  J_zret rfl (Or.inl rfl) d_P_hasField_17 (((h).1 c2))) (fun c2 =>
  J_iload_n (i := 1) rfl rfl d_P_hasField_4 <|
  J_aload_n (i := 0) rfl rfl d_P_hasField_5 <|
  gP_50 rfl d_P_hasField_6 <|
  J_icmp_ge (tgt := 16) d_P_hasField_9 (by decide) (fun c1 =>
  J_iconst (v := (0 : Int32)) d_P_hasField_16 (by decide) <|
  J_zret rfl (Or.inl rfl) d_P_hasField_17 (((((h).2 c2)).1 c1))) (fun c1 =>
  J_iconst (v := (1 : Int32)) d_P_hasField_12 (by decide) <|
  J_goto (tgt := 17) d_P_hasField_13 (by decide) <|
  J_zret rfl (Or.inr rfl) d_P_hasField_17 (((((h).2 c2)).2 c1))))
theorem r_P_hasMethod_0 {Q : Option mV → mS → Prop} {σ : mS} {x1 : Int32} (h : (x1 < (0 : Int32) → (Q (some (.inl (0 : Int32))) σ)) ∧ (¬ x1 < (0 : Int32) → (((σ 1 2) ≤ x1 → (Q (some (.inl (0 : Int32))) σ)) ∧ (¬ (σ 1 2) ≤ x1 → (Q (some (.inl (1 : Int32))) σ))))) : J M_P_hasMethod Q 0 [some (.inr (1, 0)), some (.inl x1)] [] σ :=
  J_iload_n (i := 1) rfl rfl d_P_hasMethod_0 <|
  J_if_lt (tgt := 16) d_P_hasMethod_1 (by decide) (fun c2 =>
  J_iconst (v := (0 : Int32)) d_P_hasMethod_16 (by decide) <|
  J_zret rfl (Or.inl rfl) d_P_hasMethod_17 (((h).1 c2))) (fun c2 =>
  J_iload_n (i := 1) rfl rfl d_P_hasMethod_4 <|
  J_aload_n (i := 0) rfl rfl d_P_hasMethod_5 <|
  gP_53 rfl d_P_hasMethod_6 <|
  J_icmp_ge (tgt := 16) d_P_hasMethod_9 (by decide) (fun c1 =>
  J_iconst (v := (0 : Int32)) d_P_hasMethod_16 (by decide) <|
  J_zret rfl (Or.inl rfl) d_P_hasMethod_17 (((((h).2 c2)).1 c1))) (fun c1 =>
  J_iconst (v := (1 : Int32)) d_P_hasMethod_12 (by decide) <|
  J_goto (tgt := 17) d_P_hasMethod_13 (by decide) <|
  J_zret rfl (Or.inr rfl) d_P_hasMethod_17 (((((h).2 c2)).2 c1))))
theorem r_P_hasName_0 {Q : Option mV → mS → Prop} {σ : mS} {x1 x2 : Int32} (h : MU M_P_hasMethod [.inr (1, 0), .inl x1] σ (fun r s1 => ∃ r3, r = some (.inl r3) ∧ ((r3 = (0 : Int32) → (Q (some (.inl (0 : Int32))) s1)) ∧ (¬ r3 = (0 : Int32) → (MU M_O_isName [.inl x2] s1 (fun r s4 => ∃ r6, r = some (.inl r6) ∧ ((r6 = (0 : Int32) → (Q (some (.inl (0 : Int32))) s4)) ∧ (¬ r6 = (0 : Int32) → (Q (some (.inl (1 : Int32))) s4))))))))) : J M_P_hasName Q 0 [some (.inr (1, 0)), some (.inl x1), some (.inl x2)] [] σ :=
  J_aload_n (i := 0) rfl rfl d_P_hasName_0 <|
  J_iload_n (i := 1) rfl rfl d_P_hasName_1 <|
  kP_56_i rfl rfl rfl (args := [.inl x1]) (h) d_P_hasName_2 (fun r3 s1 h2 =>
  J_if_eq (tgt := 19) d_P_hasName_5 (by decide) (fun c8 =>
  J_iconst (v := (0 : Int32)) d_P_hasName_19 (by decide) <|
  J_zret rfl (Or.inl rfl) d_P_hasName_20 (((h2).1 c8))) (fun c8 =>
  J_iload_n (i := 2) rfl rfl d_P_hasName_8 <|
  kP_60_i rfl rfl rfl (args := [.inl x2]) (((h2).2 c8)) d_P_hasName_9 (fun r6 s4 h5 =>
  J_if_eq (tgt := 19) d_P_hasName_12 (by decide) (fun c7 =>
  J_iconst (v := (0 : Int32)) d_P_hasName_19 (by decide) <|
  J_zret rfl (Or.inl rfl) d_P_hasName_20 (((h5).1 c7))) (fun c7 =>
  J_iconst (v := (1 : Int32)) d_P_hasName_15 (by decide) <|
  J_goto (tgt := 20) d_P_hasName_16 (by decide) <|
  J_zret rfl (Or.inr rfl) d_P_hasName_20 (((h5).2 c7))))))
theorem r_P_hasStatement_0 {Q : Option mV → mS → Prop} {σ : mS} {x1 : Int32} (h : (x1 < (0 : Int32) → (Q (some (.inl (0 : Int32))) σ)) ∧ (¬ x1 < (0 : Int32) → (((σ 1 3) ≤ x1 → (Q (some (.inl (0 : Int32))) σ)) ∧ (¬ (σ 1 3) ≤ x1 → (Q (some (.inl (1 : Int32))) σ))))) : J M_P_hasStatement Q 0 [some (.inr (1, 0)), some (.inl x1)] [] σ :=
  J_iload_n (i := 1) rfl rfl d_P_hasStatement_0 <|
  J_if_lt (tgt := 16) d_P_hasStatement_1 (by decide) (fun c2 =>
  J_iconst (v := (0 : Int32)) d_P_hasStatement_16 (by decide) <|
  J_zret rfl (Or.inl rfl) d_P_hasStatement_17 (((h).1 c2))) (fun c2 =>
  J_iload_n (i := 1) rfl rfl d_P_hasStatement_4 <|
  J_aload_n (i := 0) rfl rfl d_P_hasStatement_5 <|
  gP_63 rfl d_P_hasStatement_6 <|
  J_icmp_ge (tgt := 16) d_P_hasStatement_9 (by decide) (fun c1 =>
  J_iconst (v := (0 : Int32)) d_P_hasStatement_16 (by decide) <|
  J_zret rfl (Or.inl rfl) d_P_hasStatement_17 (((((h).2 c2)).1 c1))) (fun c1 =>
  J_iconst (v := (1 : Int32)) d_P_hasStatement_12 (by decide) <|
  J_goto (tgt := 17) d_P_hasStatement_13 (by decide) <|
  J_zret rfl (Or.inr rfl) d_P_hasStatement_17 (((((h).2 c2)).2 c1))))
theorem r_P_hasSite_0 {Q : Option mV → mS → Prop} {σ : mS} {x1 : Int32} (h : (x1 < (0 : Int32) → (Q (some (.inl (0 : Int32))) σ)) ∧ (¬ x1 < (0 : Int32) → (((σ 1 4) ≤ x1 → (Q (some (.inl (0 : Int32))) σ)) ∧ (¬ (σ 1 4) ≤ x1 → (Q (some (.inl (1 : Int32))) σ))))) : J M_P_hasSite Q 0 [some (.inr (1, 0)), some (.inl x1)] [] σ :=
  J_iload_n (i := 1) rfl rfl d_P_hasSite_0 <|
  J_if_lt (tgt := 16) d_P_hasSite_1 (by decide) (fun c2 =>
  J_iconst (v := (0 : Int32)) d_P_hasSite_16 (by decide) <|
  J_zret rfl (Or.inl rfl) d_P_hasSite_17 (((h).1 c2))) (fun c2 =>
  J_iload_n (i := 1) rfl rfl d_P_hasSite_4 <|
  J_aload_n (i := 0) rfl rfl d_P_hasSite_5 <|
  gP_66 rfl d_P_hasSite_6 <|
  J_icmp_ge (tgt := 16) d_P_hasSite_9 (by decide) (fun c1 =>
  J_iconst (v := (0 : Int32)) d_P_hasSite_16 (by decide) <|
  J_zret rfl (Or.inl rfl) d_P_hasSite_17 (((((h).2 c2)).1 c1))) (fun c1 =>
  J_iconst (v := (1 : Int32)) d_P_hasSite_12 (by decide) <|
  J_goto (tgt := 17) d_P_hasSite_13 (by decide) <|
  J_zret rfl (Or.inr rfl) d_P_hasSite_17 (((((h).2 c2)).2 c1))))
theorem r_P_hasOperands_0 {Q : Option mV → mS → Prop} {σ : mS} {x1 x2 x3 x4 x5 x6 : Int32} (h : (x1 = (0 : Int32) → (MU M_O_isName [.inl x2] σ (fun r s1 => ∃ r3, r = some (.inl r3) ∧ ((r3 = (0 : Int32) → (Q (some (.inl (0 : Int32))) s1)) ∧ (¬ r3 = (0 : Int32) → (MU M_P_hasClass [.inr (1, 0), .inl x3] s1 (fun r s4 => ∃ r6, r = some (.inl r6) ∧ ((r6 = (0 : Int32) → (Q (some (.inl (0 : Int32))) s4)) ∧ (¬ r6 = (0 : Int32) → (Q (some (.inl (1 : Int32))) s4)))))))))) ∧ (x1 = (nI 2) → (MU M_O_isName [.inl x2] σ (fun r s9 => ∃ r11, r = some (.inl r11) ∧ ((r11 = (0 : Int32) → (Q (some (.inl (0 : Int32))) s9)) ∧ (¬ r11 = (0 : Int32) → (MU M_O_isName [.inl x3] s9 (fun r s12 => ∃ r14, r = some (.inl r14) ∧ ((r14 = (0 : Int32) → (Q (some (.inl (0 : Int32))) s12)) ∧ (¬ r14 = (0 : Int32) → (MU M_P_hasField [.inr (1, 0), .inl x4] s12 (fun r s15 => ∃ r17, r = some (.inl r17) ∧ ((r17 = (0 : Int32) → (Q (some (.inl (0 : Int32))) s15)) ∧ (¬ r17 = (0 : Int32) → (Q (some (.inl (1 : Int32))) s15)))))))))))))) ∧ (x1 = (nI 3) → (MU M_O_isName [.inl x2] σ (fun r s21 => ∃ r23, r = some (.inl r23) ∧ ((r23 = (0 : Int32) → (Q (some (.inl (0 : Int32))) s21)) ∧ (¬ r23 = (0 : Int32) → (MU M_O_isName [.inl x3] s21 (fun r s24 => ∃ r26, r = some (.inl r26) ∧ ((r26 = (0 : Int32) → (Q (some (.inl (0 : Int32))) s24)) ∧ (¬ r26 = (0 : Int32) → (MU M_P_hasField [.inr (1, 0), .inl x4] s24 (fun r s27 => ∃ r29, r = some (.inl r29) ∧ ((r29 = (0 : Int32) → (Q (some (.inl (0 : Int32))) s27)) ∧ (¬ r29 = (0 : Int32) → (Q (some (.inl (1 : Int32))) s27)))))))))))))) ∧ (x1 = (nI 4) → (MU M_O_isName [.inl x2] σ (fun r s33 => ∃ r35, r = some (.inl r35) ∧ ((r35 = (0 : Int32) → (Q (some (.inl (0 : Int32))) s33)) ∧ (¬ r35 = (0 : Int32) → (MU M_O_isName [.inl x3] s33 (fun r s36 => ∃ r38, r = some (.inl r38) ∧ ((r38 = (0 : Int32) → (Q (some (.inl (0 : Int32))) s36)) ∧ (¬ r38 = (0 : Int32) → (MU M_P_hasClass [.inr (1, 0), .inl x4] s36 (fun r s39 => ∃ r41, r = some (.inl r41) ∧ ((r41 = (0 : Int32) → (Q (some (.inl (0 : Int32))) s39)) ∧ (¬ r41 = (0 : Int32) → (Q (some (.inl (1 : Int32))) s39)))))))))))))) ∧ (x1 = (nI 5) → (MU M_O_isName [.inl x2] σ (fun r s45 => ∃ r47, r = some (.inl r47) ∧ ((r47 = (0 : Int32) → (Q (some (.inl (0 : Int32))) s45)) ∧ (¬ r47 = (0 : Int32) → (MU M_O_isStatic [.inl x3] s45 (fun r s48 => ∃ r50, r = some (.inl r50) ∧ ((r50 = (0 : Int32) → (Q (some (.inl (0 : Int32))) s48)) ∧ (¬ r50 = (0 : Int32) → (Q (some (.inl (1 : Int32))) s48)))))))))) ∧ (x1 = (nI 6) → (MU M_O_isStatic [.inl x2] σ (fun r s53 => ∃ r55, r = some (.inl r55) ∧ ((r55 = (0 : Int32) → (Q (some (.inl (0 : Int32))) s53)) ∧ (¬ r55 = (0 : Int32) → (MU M_O_isName [.inl x3] s53 (fun r s56 => ∃ r58, r = some (.inl r58) ∧ ((r58 = (0 : Int32) → (Q (some (.inl (0 : Int32))) s56)) ∧ (¬ r58 = (0 : Int32) → (Q (some (.inl (1 : Int32))) s56)))))))))) ∧ (x1 = (nI 7) → (MU M_O_isName [.inl x2] σ (fun r s61 => ∃ r63, r = some (.inl r63) ∧ ((r63 = (0 : Int32) → (Q (some (.inl (0 : Int32))) s61)) ∧ (¬ r63 = (0 : Int32) → (MU M_O_isName [.inl x3] s61 (fun r s64 => ∃ r66, r = some (.inl r66) ∧ ((r66 = (0 : Int32) → (Q (some (.inl (0 : Int32))) s64)) ∧ (¬ r66 = (0 : Int32) → (MU M_O_isName [.inl x5] s64 (fun r s67 => ∃ r69, r = some (.inl r69) ∧ ((r69 = (0 : Int32) → (Q (some (.inl (0 : Int32))) s67)) ∧ (¬ r69 = (0 : Int32) → (MU M_O_isName [.inl x6] s67 (fun r s70 => ∃ r72, r = some (.inl r72) ∧ ((r72 = (0 : Int32) → (Q (some (.inl (0 : Int32))) s70)) ∧ (¬ r72 = (0 : Int32) → (Q (some (.inl (1 : Int32))) s70)))))))))))))))))) ∧ (¬ x1 = (0 : Int32) → ¬ x1 = (nI 2) → ¬ x1 = (nI 3) → ¬ x1 = (nI 4) → ¬ x1 = (nI 5) → ¬ x1 = (nI 6) → ¬ x1 = (nI 7) → (MU M_O_isName [.inl x2] σ (fun r s77 => ∃ r79, r = some (.inl r79) ∧ ((r79 = (0 : Int32) → (Q (some (.inl (0 : Int32))) s77)) ∧ (¬ r79 = (0 : Int32) → (MU M_O_isName [.inl x3] s77 (fun r s80 => ∃ r82, r = some (.inl r82) ∧ ((r82 = (0 : Int32) → (Q (some (.inl (0 : Int32))) s80)) ∧ (¬ r82 = (0 : Int32) → (Q (some (.inl (1 : Int32))) s80))))))))))) : J M_P_hasOperands Q 0 [some (.inr (1, 0)), some (.inl x1), some (.inl x2), some (.inl x3), some (.inl x4), some (.inl x5), some (.inl x6)] [] σ :=
  J_iload_n (i := 1) rfl rfl d_P_hasOperands_0 <|
  Classical.byCases (p := x1 = (0 : Int32)) (fun c85 => J_tabIn (tgt := 48) c85 d_P_hasOperands_1 (by decide) (by decide) rfl (by decide) <|
  J_iload_n (i := 2) rfl rfl d_P_hasOperands_48 <|
  kP_60_i rfl rfl rfl (args := [.inl x2]) (((h).1 c85)) d_P_hasOperands_49 (fun r3 s1 h2 =>
  J_if_eq (tgt := 67) d_P_hasOperands_52 (by decide) (fun c8 =>
  J_iconst (v := (0 : Int32)) d_P_hasOperands_67 (by decide) <|
  J_zret rfl (Or.inl rfl) d_P_hasOperands_68 (((h2).1 c8))) (fun c8 =>
  J_aload_n (i := 0) rfl rfl d_P_hasOperands_55 <|
  J_iload_n (i := 3) rfl rfl d_P_hasOperands_56 <|
  kP_69_i rfl rfl rfl (args := [.inl x3]) (((h2).2 c8)) d_P_hasOperands_57 (fun r6 s4 h5 =>
  J_if_eq (tgt := 67) d_P_hasOperands_60 (by decide) (fun c7 =>
  J_iconst (v := (0 : Int32)) d_P_hasOperands_67 (by decide) <|
  J_zret rfl (Or.inl rfl) d_P_hasOperands_68 (((h5).1 c7))) (fun c7 =>
  J_iconst (v := (1 : Int32)) d_P_hasOperands_63 (by decide) <|
  J_goto (tgt := 68) d_P_hasOperands_64 (by decide) <|
  J_zret rfl (Or.inr rfl) d_P_hasOperands_68 (((h5).2 c7))))))) <| fun c85_0 =>
  Classical.byCases (p := x1 = (nI 2)) (fun c85 => J_tabIn (tgt := 69) c85 d_P_hasOperands_1 (by decide) (by decide) rfl (by decide) <|
  J_iload_n (i := 2) rfl rfl d_P_hasOperands_69 <|
  kP_60_i rfl rfl rfl (args := [.inl x2]) ((((h).2).1 c85)) d_P_hasOperands_70 (fun r11 s9 h10 =>
  J_if_eq (tgt := 96) d_P_hasOperands_73 (by decide) (fun c20 =>
  J_iconst (v := (0 : Int32)) d_P_hasOperands_96 (by decide) <|
  J_zret rfl (Or.inl rfl) d_P_hasOperands_97 (((h10).1 c20))) (fun c20 =>
  J_iload_n (i := 3) rfl rfl d_P_hasOperands_76 <|
  kP_60_i rfl rfl rfl (args := [.inl x3]) (((h10).2 c20)) d_P_hasOperands_77 (fun r14 s12 h13 =>
  J_if_eq (tgt := 96) d_P_hasOperands_80 (by decide) (fun c19 =>
  J_iconst (v := (0 : Int32)) d_P_hasOperands_96 (by decide) <|
  J_zret rfl (Or.inl rfl) d_P_hasOperands_97 (((h13).1 c19))) (fun c19 =>
  J_aload_n (i := 0) rfl rfl d_P_hasOperands_83 <|
  J_iload (i := 4) rfl d_P_hasOperands_84 <|
  kP_72_i rfl rfl rfl (args := [.inl x4]) (((h13).2 c19)) d_P_hasOperands_86 (fun r17 s15 h16 =>
  J_if_eq (tgt := 96) d_P_hasOperands_89 (by decide) (fun c18 =>
  J_iconst (v := (0 : Int32)) d_P_hasOperands_96 (by decide) <|
  J_zret rfl (Or.inl rfl) d_P_hasOperands_97 (((h16).1 c18))) (fun c18 =>
  J_iconst (v := (1 : Int32)) d_P_hasOperands_92 (by decide) <|
  J_goto (tgt := 97) d_P_hasOperands_93 (by decide) <|
  J_zret rfl (Or.inr rfl) d_P_hasOperands_97 (((h16).2 c18))))))))) <| fun c85_1 =>
  Classical.byCases (p := x1 = (nI 3)) (fun c85 => J_tabIn (tgt := 69) c85 d_P_hasOperands_1 (by decide) (by decide) rfl (by decide) <|
  J_iload_n (i := 2) rfl rfl d_P_hasOperands_69 <|
  kP_60_i rfl rfl rfl (args := [.inl x2]) (((((h).2).2).1 c85)) d_P_hasOperands_70 (fun r23 s21 h22 =>
  J_if_eq (tgt := 96) d_P_hasOperands_73 (by decide) (fun c32 =>
  J_iconst (v := (0 : Int32)) d_P_hasOperands_96 (by decide) <|
  J_zret rfl (Or.inl rfl) d_P_hasOperands_97 (((h22).1 c32))) (fun c32 =>
  J_iload_n (i := 3) rfl rfl d_P_hasOperands_76 <|
  kP_60_i rfl rfl rfl (args := [.inl x3]) (((h22).2 c32)) d_P_hasOperands_77 (fun r26 s24 h25 =>
  J_if_eq (tgt := 96) d_P_hasOperands_80 (by decide) (fun c31 =>
  J_iconst (v := (0 : Int32)) d_P_hasOperands_96 (by decide) <|
  J_zret rfl (Or.inl rfl) d_P_hasOperands_97 (((h25).1 c31))) (fun c31 =>
  J_aload_n (i := 0) rfl rfl d_P_hasOperands_83 <|
  J_iload (i := 4) rfl d_P_hasOperands_84 <|
  kP_72_i rfl rfl rfl (args := [.inl x4]) (((h25).2 c31)) d_P_hasOperands_86 (fun r29 s27 h28 =>
  J_if_eq (tgt := 96) d_P_hasOperands_89 (by decide) (fun c30 =>
  J_iconst (v := (0 : Int32)) d_P_hasOperands_96 (by decide) <|
  J_zret rfl (Or.inl rfl) d_P_hasOperands_97 (((h28).1 c30))) (fun c30 =>
  J_iconst (v := (1 : Int32)) d_P_hasOperands_92 (by decide) <|
  J_goto (tgt := 97) d_P_hasOperands_93 (by decide) <|
  J_zret rfl (Or.inr rfl) d_P_hasOperands_97 (((h28).2 c30))))))))) <| fun c85_2 =>
  Classical.byCases (p := x1 = (nI 4)) (fun c85 => J_tabIn (tgt := 98) c85 d_P_hasOperands_1 (by decide) (by decide) rfl (by decide) <|
  J_iload_n (i := 2) rfl rfl d_P_hasOperands_98 <|
  kP_60_i rfl rfl rfl (args := [.inl x2]) ((((((h).2).2).2).1 c85)) d_P_hasOperands_99 (fun r35 s33 h34 =>
  J_if_eq (tgt := 125) d_P_hasOperands_102 (by decide) (fun c44 =>
  J_iconst (v := (0 : Int32)) d_P_hasOperands_125 (by decide) <|
  J_zret rfl (Or.inl rfl) d_P_hasOperands_126 (((h34).1 c44))) (fun c44 =>
  J_iload_n (i := 3) rfl rfl d_P_hasOperands_105 <|
  kP_60_i rfl rfl rfl (args := [.inl x3]) (((h34).2 c44)) d_P_hasOperands_106 (fun r38 s36 h37 =>
  J_if_eq (tgt := 125) d_P_hasOperands_109 (by decide) (fun c43 =>
  J_iconst (v := (0 : Int32)) d_P_hasOperands_125 (by decide) <|
  J_zret rfl (Or.inl rfl) d_P_hasOperands_126 (((h37).1 c43))) (fun c43 =>
  J_aload_n (i := 0) rfl rfl d_P_hasOperands_112 <|
  J_iload (i := 4) rfl d_P_hasOperands_113 <|
  kP_69_i rfl rfl rfl (args := [.inl x4]) (((h37).2 c43)) d_P_hasOperands_115 (fun r41 s39 h40 =>
  J_if_eq (tgt := 125) d_P_hasOperands_118 (by decide) (fun c42 =>
  J_iconst (v := (0 : Int32)) d_P_hasOperands_125 (by decide) <|
  J_zret rfl (Or.inl rfl) d_P_hasOperands_126 (((h40).1 c42))) (fun c42 =>
  J_iconst (v := (1 : Int32)) d_P_hasOperands_121 (by decide) <|
  J_goto (tgt := 126) d_P_hasOperands_122 (by decide) <|
  J_zret rfl (Or.inr rfl) d_P_hasOperands_126 (((h40).2 c42))))))))) <| fun c85_3 =>
  Classical.byCases (p := x1 = (nI 5)) (fun c85 => J_tabIn (tgt := 127) c85 d_P_hasOperands_1 (by decide) (by decide) rfl (by decide) <|
  J_iload_n (i := 2) rfl rfl d_P_hasOperands_127 <|
  kP_60_i rfl rfl rfl (args := [.inl x2]) (((((((h).2).2).2).2).1 c85)) d_P_hasOperands_128 (fun r47 s45 h46 =>
  J_if_eq (tgt := 145) d_P_hasOperands_131 (by decide) (fun c52 =>
  J_iconst (v := (0 : Int32)) d_P_hasOperands_145 (by decide) <|
  J_zret rfl (Or.inl rfl) d_P_hasOperands_146 (((h46).1 c52))) (fun c52 =>
  J_iload_n (i := 3) rfl rfl d_P_hasOperands_134 <|
  kP_75_i rfl rfl rfl (args := [.inl x3]) (((h46).2 c52)) d_P_hasOperands_135 (fun r50 s48 h49 =>
  J_if_eq (tgt := 145) d_P_hasOperands_138 (by decide) (fun c51 =>
  J_iconst (v := (0 : Int32)) d_P_hasOperands_145 (by decide) <|
  J_zret rfl (Or.inl rfl) d_P_hasOperands_146 (((h49).1 c51))) (fun c51 =>
  J_iconst (v := (1 : Int32)) d_P_hasOperands_141 (by decide) <|
  J_goto (tgt := 146) d_P_hasOperands_142 (by decide) <|
  J_zret rfl (Or.inr rfl) d_P_hasOperands_146 (((h49).2 c51))))))) <| fun c85_4 =>
  Classical.byCases (p := x1 = (nI 6)) (fun c85 => J_tabIn (tgt := 147) c85 d_P_hasOperands_1 (by decide) (by decide) rfl (by decide) <|
  J_iload_n (i := 2) rfl rfl d_P_hasOperands_147 <|
  kP_75_i rfl rfl rfl (args := [.inl x2]) ((((((((h).2).2).2).2).2).1 c85)) d_P_hasOperands_148 (fun r55 s53 h54 =>
  J_if_eq (tgt := 165) d_P_hasOperands_151 (by decide) (fun c60 =>
  J_iconst (v := (0 : Int32)) d_P_hasOperands_165 (by decide) <|
  J_zret rfl (Or.inl rfl) d_P_hasOperands_166 (((h54).1 c60))) (fun c60 =>
  J_iload_n (i := 3) rfl rfl d_P_hasOperands_154 <|
  kP_60_i rfl rfl rfl (args := [.inl x3]) (((h54).2 c60)) d_P_hasOperands_155 (fun r58 s56 h57 =>
  J_if_eq (tgt := 165) d_P_hasOperands_158 (by decide) (fun c59 =>
  J_iconst (v := (0 : Int32)) d_P_hasOperands_165 (by decide) <|
  J_zret rfl (Or.inl rfl) d_P_hasOperands_166 (((h57).1 c59))) (fun c59 =>
  J_iconst (v := (1 : Int32)) d_P_hasOperands_161 (by decide) <|
  J_goto (tgt := 166) d_P_hasOperands_162 (by decide) <|
  J_zret rfl (Or.inr rfl) d_P_hasOperands_166 (((h57).2 c59))))))) <| fun c85_5 =>
  Classical.byCases (p := x1 = (nI 7)) (fun c85 => J_tabIn (tgt := 167) c85 d_P_hasOperands_1 (by decide) (by decide) rfl (by decide) <|
  J_iload_n (i := 2) rfl rfl d_P_hasOperands_167 <|
  kP_60_i rfl rfl rfl (args := [.inl x2]) (((((((((h).2).2).2).2).2).2).1 c85)) d_P_hasOperands_168 (fun r63 s61 h62 =>
  J_if_eq (tgt := 201) d_P_hasOperands_171 (by decide) (fun c76 =>
  J_iconst (v := (0 : Int32)) d_P_hasOperands_201 (by decide) <|
  J_zret rfl (Or.inl rfl) d_P_hasOperands_202 (((h62).1 c76))) (fun c76 =>
  J_iload_n (i := 3) rfl rfl d_P_hasOperands_174 <|
  kP_60_i rfl rfl rfl (args := [.inl x3]) (((h62).2 c76)) d_P_hasOperands_175 (fun r66 s64 h65 =>
  J_if_eq (tgt := 201) d_P_hasOperands_178 (by decide) (fun c75 =>
  J_iconst (v := (0 : Int32)) d_P_hasOperands_201 (by decide) <|
  J_zret rfl (Or.inl rfl) d_P_hasOperands_202 (((h65).1 c75))) (fun c75 =>
  J_iload (i := 5) rfl d_P_hasOperands_181 <|
  kP_60_i rfl rfl rfl (args := [.inl x5]) (((h65).2 c75)) d_P_hasOperands_183 (fun r69 s67 h68 =>
  J_if_eq (tgt := 201) d_P_hasOperands_186 (by decide) (fun c74 =>
  J_iconst (v := (0 : Int32)) d_P_hasOperands_201 (by decide) <|
  J_zret rfl (Or.inl rfl) d_P_hasOperands_202 (((h68).1 c74))) (fun c74 =>
  J_iload (i := 6) rfl d_P_hasOperands_189 <|
  kP_60_i rfl rfl rfl (args := [.inl x6]) (((h68).2 c74)) d_P_hasOperands_191 (fun r72 s70 h71 =>
  J_if_eq (tgt := 201) d_P_hasOperands_194 (by decide) (fun c73 =>
  J_iconst (v := (0 : Int32)) d_P_hasOperands_201 (by decide) <|
  J_zret rfl (Or.inl rfl) d_P_hasOperands_202 (((h71).1 c73))) (fun c73 =>
  J_iconst (v := (1 : Int32)) d_P_hasOperands_197 (by decide) <|
  J_goto (tgt := 202) d_P_hasOperands_198 (by decide) <|
  J_zret rfl (Or.inr rfl) d_P_hasOperands_202 (((h71).2 c73))))))))))) <| fun c85_6 =>
  Classical.byCases (p := x1 = (1 : Int32)) (fun c85 => J_tabIn (tgt := 203) c85 d_P_hasOperands_1 (by decide) (by decide) rfl (by decide) <|
  J_iload_n (i := 2) rfl rfl d_P_hasOperands_203 <|
  kP_60_i rfl rfl rfl (args := [.inl x2]) ((((((((((h).2).2).2).2).2).2).2) c85_0 c85_1 c85_2 c85_3 c85_4 c85_5 c85_6)) d_P_hasOperands_204 (fun r79 s77 h78 =>
  J_if_eq (tgt := 221) d_P_hasOperands_207 (by decide) (fun c84 =>
  J_iconst (v := (0 : Int32)) d_P_hasOperands_221 (by decide) <|
  J_zret rfl (Or.inl rfl) d_P_hasOperands_222 (((h78).1 c84))) (fun c84 =>
  J_iload_n (i := 3) rfl rfl d_P_hasOperands_210 <|
  kP_60_i rfl rfl rfl (args := [.inl x3]) (((h78).2 c84)) d_P_hasOperands_211 (fun r82 s80 h81 =>
  J_if_eq (tgt := 221) d_P_hasOperands_214 (by decide) (fun c83 =>
  J_iconst (v := (0 : Int32)) d_P_hasOperands_221 (by decide) <|
  J_zret rfl (Or.inl rfl) d_P_hasOperands_222 (((h81).1 c83))) (fun c83 =>
  J_iconst (v := (1 : Int32)) d_P_hasOperands_217 (by decide) <|
  J_goto (tgt := 222) d_P_hasOperands_218 (by decide) <|
  J_zret rfl (Or.inr rfl) d_P_hasOperands_222 (((h81).2 c83))))))) <| fun c85e1 =>
  J_tabOut (x := x1) (tgt := 203) (by have q0 := lv_neT (a := 0) c85_0 (by decide); have q1 := lv_neT (a := 1) c85e1 (by decide); have q2 := lv_neT (a := 2) c85_1 (by decide); have q3 := lv_neT (a := 3) c85_2 (by decide); have q4 := lv_neT (a := 4) c85_3 (by decide); have q5 := lv_neT (a := 5) c85_4 (by decide); have q6 := lv_neT (a := 6) c85_5 (by decide); have q7 := lv_neT (a := 7) c85_6 (by decide); omega) d_P_hasOperands_1 (by decide) <|
  J_iload_n (i := 2) rfl rfl d_P_hasOperands_203 <|
  kP_60_i rfl rfl rfl (args := [.inl x2]) ((((((((((h).2).2).2).2).2).2).2) c85_0 c85_1 c85_2 c85_3 c85_4 c85_5 c85_6)) d_P_hasOperands_204 (fun r79 s77 h78 =>
  J_if_eq (tgt := 221) d_P_hasOperands_207 (by decide) (fun c84 =>
  J_iconst (v := (0 : Int32)) d_P_hasOperands_221 (by decide) <|
  J_zret rfl (Or.inl rfl) d_P_hasOperands_222 (((h78).1 c84))) (fun c84 =>
  J_iload_n (i := 3) rfl rfl d_P_hasOperands_210 <|
  kP_60_i rfl rfl rfl (args := [.inl x3]) (((h78).2 c84)) d_P_hasOperands_211 (fun r82 s80 h81 =>
  J_if_eq (tgt := 221) d_P_hasOperands_214 (by decide) (fun c83 =>
  J_iconst (v := (0 : Int32)) d_P_hasOperands_221 (by decide) <|
  J_zret rfl (Or.inl rfl) d_P_hasOperands_222 (((h81).1 c83))) (fun c83 =>
  J_iconst (v := (1 : Int32)) d_P_hasOperands_217 (by decide) <|
  J_goto (tgt := 222) d_P_hasOperands_218 (by decide) <|
  J_zret rfl (Or.inr rfl) d_P_hasOperands_222 (((h81).2 c83))))))
theorem r_P_hasRoomFor_0 {Q : Option mV → mS → Prop} {σ : mS} {x1 : Int32} (h : ((nI 60) ≤ (σ 1 3) → (Q (some (.inl (0 : Int32))) σ)) ∧ (¬ (nI 60) ≤ (σ 1 3) → ((¬ x1 = (0 : Int32) → (Q (some (.inl (1 : Int32))) σ)) ∧ (x1 = (0 : Int32) → (((nI 20) ≤ (σ 1 4) → (Q (some (.inl (0 : Int32))) σ)) ∧ (¬ (nI 20) ≤ (σ 1 4) → (Q (some (.inl (1 : Int32))) σ))))))) : J M_P_hasRoomFor Q 0 [some (.inr (1, 0)), some (.inl x1)] [] σ :=
  J_aload_n (i := 0) rfl rfl d_P_hasRoomFor_0 <|
  gP_63 rfl d_P_hasRoomFor_1 <|
  J_bipush (v := (nI 60)) d_P_hasRoomFor_4 (by decide) <|
  J_icmp_ge (tgt := 26) d_P_hasRoomFor_6 (by decide) (fun c3 =>
  J_iconst (v := (0 : Int32)) d_P_hasRoomFor_26 (by decide) <|
  J_zret rfl (Or.inl rfl) d_P_hasRoomFor_27 (((h).1 c3))) (fun c3 =>
  J_iload_n (i := 1) rfl rfl d_P_hasRoomFor_9 <|
  J_if_ne (tgt := 22) d_P_hasRoomFor_10 (by decide) (fun c2 =>
  J_iconst (v := (1 : Int32)) d_P_hasRoomFor_22 (by decide) <|
  J_goto (tgt := 27) d_P_hasRoomFor_23 (by decide) <|
  J_zret rfl (Or.inr rfl) d_P_hasRoomFor_27 (((((h).2 c3)).1 c2))) (fun c2 =>
  J_aload_n (i := 0) rfl rfl d_P_hasRoomFor_13 <|
  gP_66 rfl d_P_hasRoomFor_14 <|
  J_bipush (v := (nI 20)) d_P_hasRoomFor_17 (by decide) <|
  J_icmp_ge (tgt := 26) d_P_hasRoomFor_19 (by decide) (fun c1 =>
  J_iconst (v := (0 : Int32)) d_P_hasRoomFor_26 (by decide) <|
  J_zret rfl (Or.inl rfl) d_P_hasRoomFor_27 (((((((h).2 c3)).2 c2)).1 c1))) (fun c1 =>
  J_iconst (v := (1 : Int32)) d_P_hasRoomFor_22 (by decide) <|
  J_goto (tgt := 27) d_P_hasRoomFor_23 (by decide) <|
  J_zret rfl (Or.inr rfl) d_P_hasRoomFor_27 (((((((h).2 c3)).2 c2)).2 c1)))))
theorem r_P_empty_0 {Q : Option mV → mS → Prop} {σ : mS} (h : Q none (m_up (m_up (m_up (m_up (m_up σ 1 0 (0 : Int32)) 1 1 (0 : Int32)) 1 2 (0 : Int32)) 1 3 (0 : Int32)) 1 4 (0 : Int32))) : J M_P_empty Q 0 [some (.inr (1, 0))] [] σ :=
  J_aload_n (i := 0) rfl rfl d_P_empty_0 <|
  J_iconst (v := (0 : Int32)) d_P_empty_1 (by decide) <|
  pP_46 rfl d_P_empty_2 <|
  J_aload_n (i := 0) rfl rfl d_P_empty_5 <|
  J_iconst (v := (0 : Int32)) d_P_empty_6 (by decide) <|
  pP_50 rfl d_P_empty_7 <|
  J_aload_n (i := 0) rfl rfl d_P_empty_10 <|
  J_iconst (v := (0 : Int32)) d_P_empty_11 (by decide) <|
  pP_53 rfl d_P_empty_12 <|
  J_aload_n (i := 0) rfl rfl d_P_empty_15 <|
  J_iconst (v := (0 : Int32)) d_P_empty_16 (by decide) <|
  pP_63 rfl d_P_empty_17 <|
  J_aload_n (i := 0) rfl rfl d_P_empty_20 <|
  J_iconst (v := (0 : Int32)) d_P_empty_21 (by decide) <|
  pP_66 rfl d_P_empty_22 <|
  J_vret rfl d_P_empty_25 (h)
theorem r_P_addClass_0 {Q : Option mV → mS → Prop} {σ : mS} {x1 : Int32} (h : ∀ v2, v2 = (σ 1 0) → (vp_in v2 8 ∧ (vp_in v2 8 ∧ (∀ t4, t4 = (m_up (m_up (m_up σ 1 0 ((σ 1 0) + (1 : Int32))) 4 v2.toNatClampNeg x1) 5 v2.toNatClampNeg ((1 : Int32) <<< (v2 &&& 31))) → ((x1 = (-1 : Int32) → (vp_in v2 8 ∧ (J M_P_addClass Q 57 [some (.inr (1, 0)), some (.inl x1), some (.inl v2), some (.inl (0 : Int32))] [] (m_up t4 6 v2.toNatClampNeg (0 : Int32))))) ∧ (¬ x1 = (-1 : Int32) → (vp_in v2 8 ∧ (vp_in x1 8 ∧ (vp_in v2 8 ∧ (vp_in v2 8 ∧ (J M_P_addClass Q 57 [some (.inr (1, 0)), some (.inl x1), some (.inl v2), some (.inl (0 : Int32))] [] (m_up (m_up t4 5 v2.toNatClampNeg ((t4 5 v2.toNatClampNeg) ||| (t4 5 x1.toNatClampNeg))) 6 v2.toNatClampNeg (0 : Int32))))))))))))) : J M_P_addClass Q 0 [some (.inr (1, 0)), some (.inl x1), none, none] [] σ :=
  J_aload_n (i := 0) rfl rfl d_P_addClass_0 <|
  J_dup d_P_addClass_1 <|
  gP_46 rfl d_P_addClass_2 <|
  J_dup_x1 d_P_addClass_5 <|
  J_iconst (v := (1 : Int32)) d_P_addClass_6 (by decide) <|
  J_iadd d_P_addClass_7 <|
  pP_46 rfl d_P_addClass_8 <|
  J_namei (fun v2 ev2 =>
  J_istore_n (i := 2) (ls' := [some (.inr (1, 0)), some (.inl x1), some (.inl v2), none]) rfl rfl rfl rfl d_P_addClass_11 <|
  J_aload_n (i := 0) rfl rfl d_P_addClass_12 <|
  gP_9 rfl d_P_addClass_13 <|
  J_iload_n (i := 2) rfl rfl d_P_addClass_16 <|
  J_iload_n (i := 1) rfl rfl d_P_addClass_17 <|
  J_iast (((h) v2 ev2)).1 d_P_addClass_18 <|
  J_aload_n (i := 0) rfl rfl d_P_addClass_19 <|
  gP_15 rfl d_P_addClass_20 <|
  J_iload_n (i := 2) rfl rfl d_P_addClass_23 <|
  J_iconst (v := (1 : Int32)) d_P_addClass_24 (by decide) <|
  J_iload_n (i := 2) rfl rfl d_P_addClass_25 <|
  J_ishl d_P_addClass_26 <|
  J_iast ((((h) v2 ev2)).2).1 d_P_addClass_27 <|
  J_names (fun t4 et4 =>
  J_iload_n (i := 1) rfl rfl d_P_addClass_28 <|
  J_iconst (v := (-1 : Int32)) d_P_addClass_29 (by decide) <|
  J_icmp_eq (tgt := 48) d_P_addClass_30 (by decide) (fun c8 =>
  J_aload_n (i := 0) rfl rfl d_P_addClass_48 <|
  gP_18 rfl d_P_addClass_49 <|
  J_iload_n (i := 2) rfl rfl d_P_addClass_52 <|
  J_iconst (v := (0 : Int32)) d_P_addClass_53 (by decide) <|
  J_iast (((((((((h) v2 ev2)).2).2) t4 et4)).1 c8)).1 d_P_addClass_54 <|
  J_iconst (v := (0 : Int32)) d_P_addClass_55 (by decide) <|
  J_istore_n (i := 3) (ls' := [some (.inr (1, 0)), some (.inl x1), some (.inl v2), some (.inl (0 : Int32))]) rfl rfl rfl rfl d_P_addClass_56 <|
  (((((((((h) v2 ev2)).2).2) t4 et4)).1 c8)).2) (fun c8 =>
  J_aload_n (i := 0) rfl rfl d_P_addClass_33 <|
  gP_15 rfl d_P_addClass_34 <|
  J_iload_n (i := 2) rfl rfl d_P_addClass_37 <|
  J_dup2 d_P_addClass_38 <|
  J_iald (((((((((h) v2 ev2)).2).2) t4 et4)).2 c8)).1 d_P_addClass_39 <|
  J_aload_n (i := 0) rfl rfl d_P_addClass_40 <|
  gP_15 rfl d_P_addClass_41 <|
  J_iload_n (i := 1) rfl rfl d_P_addClass_44 <|
  J_iald ((((((((((h) v2 ev2)).2).2) t4 et4)).2 c8)).2).1 d_P_addClass_45 <|
  J_ior d_P_addClass_46 <|
  J_iast (((((((((((h) v2 ev2)).2).2) t4 et4)).2 c8)).2).2).1 d_P_addClass_47 <|
  J_aload_n (i := 0) rfl rfl d_P_addClass_48 <|
  gP_18 rfl d_P_addClass_49 <|
  J_iload_n (i := 2) rfl rfl d_P_addClass_52 <|
  J_iconst (v := (0 : Int32)) d_P_addClass_53 (by decide) <|
  J_iast ((((((((((((h) v2 ev2)).2).2) t4 et4)).2 c8)).2).2).2).1 d_P_addClass_54 <|
  J_iconst (v := (0 : Int32)) d_P_addClass_55 (by decide) <|
  J_istore_n (i := 3) (ls' := [some (.inr (1, 0)), some (.inl x1), some (.inl v2), some (.inl (0 : Int32))]) rfl rfl rfl rfl d_P_addClass_56 <|
  ((((((((((((h) v2 ev2)).2).2) t4 et4)).2 c8)).2).2).2).2)))
theorem r_P_addClass_57 {Q : Option mV → mS → Prop} {σ : mS} {x2 x3 : Int32} {u1 : Option mV} (h : ((nI 4) ≤ x3 → (Q (some (.inl x2)) σ)) ∧ (¬ (nI 4) ≤ x3 → (vp_in ((x2 * (nI 4)) + x3) 32 ∧ (MU M_P_findMethod [.inr (1, 0), .inl x2, .inl x3] (m_up σ 7 ((x2 * (nI 4)) + x3).toNatClampNeg (-1 : Int32)) (fun r s10 => r = none ∧ (J M_P_addClass Q 57 [some (.inr (1, 0)), u1, some (.inl x2), some (.inl (x3 + 1))] [] s10)))))) : J M_P_addClass Q 57 [some (.inr (1, 0)), u1, some (.inl x2), some (.inl x3)] [] σ :=
  J_iload_n (i := 3) rfl rfl d_P_addClass_57 <|
  J_iconst (v := (nI 4)) d_P_addClass_58 (by decide) <|
  J_icmp_ge (tgt := 85) d_P_addClass_59 (by decide) (fun c12 =>
  J_iload_n (i := 2) rfl rfl d_P_addClass_85 <|
  J_iret rfl d_P_addClass_86 (((h).1 c12))) (fun c12 =>
  J_aload_n (i := 0) rfl rfl d_P_addClass_62 <|
  gP_21 rfl d_P_addClass_63 <|
  J_iload_n (i := 2) rfl rfl d_P_addClass_66 <|
  J_iconst (v := (nI 4)) d_P_addClass_67 (by decide) <|
  J_imul d_P_addClass_68 <|
  J_iload_n (i := 3) rfl rfl d_P_addClass_69 <|
  J_iadd d_P_addClass_70 <|
  J_iconst (v := (-1 : Int32)) d_P_addClass_71 (by decide) <|
  J_iast (((h).2 c12)).1 d_P_addClass_72 <|
  J_aload_n (i := 0) rfl rfl d_P_addClass_73 <|
  J_iload_n (i := 2) rfl rfl d_P_addClass_74 <|
  J_iload_n (i := 3) rfl rfl d_P_addClass_75 <|
  kP_78_v rfl rfl rfl (args := [.inl x2, .inl x3]) ((((h).2 c12)).2) d_P_addClass_76 (fun s10 h11 =>
  J_iinc (i := 3) (v := (x3 + 1)) (ls' := [some (.inr (1, 0)), u1, some (.inl x2), some (.inl (x3 + 1))]) rfl rfl rfl rfl rfl d_P_addClass_79 <|
  J_goto (tgt := 57) d_P_addClass_82 (by decide) <|
  h11))
theorem r_P_addField_0 {Q : Option mV → mS → Prop} {σ : mS} {x1 : Int32} (h : ∀ v2, v2 = (σ 1 1) → (vp_in v2 8 ∧ (Q (some (.inl v2)) (m_up (m_up σ 1 1 ((σ 1 1) + (1 : Int32))) 9 v2.toNatClampNeg x1)))) : J M_P_addField Q 0 [some (.inr (1, 0)), some (.inl x1), none] [] σ :=
  J_aload_n (i := 0) rfl rfl d_P_addField_0 <|
  J_dup d_P_addField_1 <|
  gP_50 rfl d_P_addField_2 <|
  J_dup_x1 d_P_addField_5 <|
  J_iconst (v := (1 : Int32)) d_P_addField_6 (by decide) <|
  J_iadd d_P_addField_7 <|
  pP_50 rfl d_P_addField_8 <|
  J_namei (fun v2 ev2 =>
  J_istore_n (i := 2) (ls' := [some (.inr (1, 0)), some (.inl x1), some (.inl v2)]) rfl rfl rfl rfl d_P_addField_11 <|
  J_aload_n (i := 0) rfl rfl d_P_addField_12 <|
  gP_27 rfl d_P_addField_13 <|
  J_iload_n (i := 2) rfl rfl d_P_addField_16 <|
  J_iload_n (i := 1) rfl rfl d_P_addField_17 <|
  J_iast (((h) v2 ev2)).1 d_P_addField_18 <|
  J_iload_n (i := 2) rfl rfl d_P_addField_19 <|
  J_iret rfl d_P_addField_20 ((((h) v2 ev2)).2))
theorem r_P_addMethod_0 {Q : Option mV → mS → Prop} {σ : mS} {x1 x2 : Int32} (h : ∀ v2, v2 = (σ 1 2) → (vp_in v2 10 ∧ (vp_in ((x1 * (nI 4)) + x2) 32 ∧ (J M_P_addMethod Q 33 [some (.inr (1, 0)), some (.inl x1), some (.inl x2), some (.inl v2), some (.inl x1)] [] (m_up (m_up (m_up σ 1 2 ((σ 1 2) + (1 : Int32))) 11 v2.toNatClampNeg (0 : Int32)) 7 ((x1 * (nI 4)) + x2).toNatClampNeg v2))))) : J M_P_addMethod Q 0 [some (.inr (1, 0)), some (.inl x1), some (.inl x2), none, none] [] σ :=
  J_aload_n (i := 0) rfl rfl d_P_addMethod_0 <|
  J_dup d_P_addMethod_1 <|
  gP_53 rfl d_P_addMethod_2 <|
  J_dup_x1 d_P_addMethod_5 <|
  J_iconst (v := (1 : Int32)) d_P_addMethod_6 (by decide) <|
  J_iadd d_P_addMethod_7 <|
  pP_53 rfl d_P_addMethod_8 <|
  J_namei (fun v2 ev2 =>
  J_istore_n (i := 3) (ls' := [some (.inr (1, 0)), some (.inl x1), some (.inl x2), some (.inl v2), none]) rfl rfl rfl rfl d_P_addMethod_11 <|
  J_aload_n (i := 0) rfl rfl d_P_addMethod_12 <|
  gP_39 rfl d_P_addMethod_13 <|
  J_iload_n (i := 3) rfl rfl d_P_addMethod_16 <|
  J_iconst (v := (0 : Int32)) d_P_addMethod_17 (by decide) <|
  J_iast (((h) v2 ev2)).1 d_P_addMethod_18 <|
  J_aload_n (i := 0) rfl rfl d_P_addMethod_19 <|
  gP_21 rfl d_P_addMethod_20 <|
  J_iload_n (i := 1) rfl rfl d_P_addMethod_23 <|
  J_iconst (v := (nI 4)) d_P_addMethod_24 (by decide) <|
  J_imul d_P_addMethod_25 <|
  J_iload_n (i := 2) rfl rfl d_P_addMethod_26 <|
  J_iadd d_P_addMethod_27 <|
  J_iload_n (i := 3) rfl rfl d_P_addMethod_28 <|
  J_iast ((((h) v2 ev2)).2).1 d_P_addMethod_29 <|
  J_iload_n (i := 1) rfl rfl d_P_addMethod_30 <|
  J_istore (i := 4) (ls' := [some (.inr (1, 0)), some (.inl x1), some (.inl x2), some (.inl v2), some (.inl x1)]) rfl rfl rfl d_P_addMethod_31 <|
  ((((h) v2 ev2)).2).2)
theorem r_P_addMethod_33 {Q : Option mV → mS → Prop} {σ : mS} {x2 x3 x4 : Int32} {u1 : Option mV} (h : ((σ 1 0) ≤ x4 → (Q (some (.inl x3)) σ)) ∧ (¬ (σ 1 0) ≤ x4 → (MU M_P_findMethod [.inr (1, 0), .inl x4, .inl x2] σ (fun r s5 => r = none ∧ (J M_P_addMethod Q 33 [some (.inr (1, 0)), u1, some (.inl x2), some (.inl x3), some (.inl (x4 + 1))] [] s5))))) : J M_P_addMethod Q 33 [some (.inr (1, 0)), u1, some (.inl x2), some (.inl x3), some (.inl x4)] [] σ :=
  J_iload (i := 4) rfl d_P_addMethod_33 <|
  J_aload_n (i := 0) rfl rfl d_P_addMethod_35 <|
  gP_46 rfl d_P_addMethod_36 <|
  J_icmp_ge (tgt := 55) d_P_addMethod_39 (by decide) (fun c7 =>
  J_iload_n (i := 3) rfl rfl d_P_addMethod_55 <|
  J_iret rfl d_P_addMethod_56 (((h).1 c7))) (fun c7 =>
  J_aload_n (i := 0) rfl rfl d_P_addMethod_42 <|
  J_iload (i := 4) rfl d_P_addMethod_43 <|
  J_iload_n (i := 2) rfl rfl d_P_addMethod_45 <|
  kP_78_v rfl rfl rfl (args := [.inl x4, .inl x2]) (((h).2 c7)) d_P_addMethod_46 (fun s5 h6 =>
  J_iinc (i := 4) (v := (x4 + 1)) (ls' := [some (.inr (1, 0)), u1, some (.inl x2), some (.inl x3), some (.inl (x4 + 1))]) rfl rfl rfl rfl rfl d_P_addMethod_49 <|
  J_goto (tgt := 33) d_P_addMethod_52 (by decide) <|
  h6))
theorem r_P_findMethod_0 {Q : Option mV → mS → Prop} {σ : mS} {x1 x2 : Int32} (h : vp_in ((x1 * (nI 4)) + x2) 32 ∧ (∀ v1, v1 = (σ 7 ((x1 * (nI 4)) + x2).toNatClampNeg) → ((¬ v1 = (-1 : Int32) → (vp_in ((x1 * (nI 4)) + x2) 32 ∧ (Q none (m_up σ 8 ((x1 * (nI 4)) + x2).toNatClampNeg v1)))) ∧ (v1 = (-1 : Int32) → (vp_in x1 8 ∧ (((σ 4 x1.toNatClampNeg) = (-1 : Int32) → (vp_in ((x1 * (nI 4)) + x2) 32 ∧ (Q none (m_up σ 8 ((x1 * (nI 4)) + x2).toNatClampNeg v1)))) ∧ (¬ (σ 4 x1.toNatClampNeg) = (-1 : Int32) → (vp_in x1 8 ∧ (vp_in (((σ 4 x1.toNatClampNeg) * (nI 4)) + x2) 32 ∧ (vp_in ((x1 * (nI 4)) + x2) 32 ∧ (Q none (m_up σ 8 ((x1 * (nI 4)) + x2).toNatClampNeg (σ 8 (((σ 4 x1.toNatClampNeg) * (nI 4)) + x2).toNatClampNeg))))))))))))) : J M_P_findMethod Q 0 [some (.inr (1, 0)), some (.inl x1), some (.inl x2), none] [] σ :=
  J_aload_n (i := 0) rfl rfl d_P_findMethod_0 <|
  gP_21 rfl d_P_findMethod_1 <|
  J_iload_n (i := 1) rfl rfl d_P_findMethod_4 <|
  J_iconst (v := (nI 4)) d_P_findMethod_5 (by decide) <|
  J_imul d_P_findMethod_6 <|
  J_iload_n (i := 2) rfl rfl d_P_findMethod_7 <|
  J_iadd d_P_findMethod_8 <|
  J_iald (h).1 d_P_findMethod_9 <|
  J_namei (fun v1 ev1 =>
  J_istore_n (i := 3) (ls' := [some (.inr (1, 0)), some (.inl x1), some (.inl x2), some (.inl v1)]) rfl rfl rfl rfl d_P_findMethod_10 <|
  J_iload_n (i := 3) rfl rfl d_P_findMethod_11 <|
  J_iconst (v := (-1 : Int32)) d_P_findMethod_12 (by decide) <|
  J_icmp_ne (tgt := 42) d_P_findMethod_13 (by decide) (fun c7 =>
  J_aload_n (i := 0) rfl rfl d_P_findMethod_42 <|
  gP_24 rfl d_P_findMethod_43 <|
  J_iload_n (i := 1) rfl rfl d_P_findMethod_46 <|
  J_iconst (v := (nI 4)) d_P_findMethod_47 (by decide) <|
  J_imul d_P_findMethod_48 <|
  J_iload_n (i := 2) rfl rfl d_P_findMethod_49 <|
  J_iadd d_P_findMethod_50 <|
  J_iload_n (i := 3) rfl rfl d_P_findMethod_51 <|
  J_iast ((((((h).2) v1 ev1)).1 c7)).1 d_P_findMethod_52 <|
  J_vret rfl d_P_findMethod_53 (((((((h).2) v1 ev1)).1 c7)).2)) (fun c7 =>
  J_aload_n (i := 0) rfl rfl d_P_findMethod_16 <|
  gP_9 rfl d_P_findMethod_17 <|
  J_iload_n (i := 1) rfl rfl d_P_findMethod_20 <|
  J_iald ((((((h).2) v1 ev1)).2 c7)).1 d_P_findMethod_21 <|
  J_iconst (v := (-1 : Int32)) d_P_findMethod_22 (by decide) <|
  J_icmp_eq (tgt := 42) d_P_findMethod_23 (by decide) (fun c6 =>
  J_aload_n (i := 0) rfl rfl d_P_findMethod_42 <|
  gP_24 rfl d_P_findMethod_43 <|
  J_iload_n (i := 1) rfl rfl d_P_findMethod_46 <|
  J_iconst (v := (nI 4)) d_P_findMethod_47 (by decide) <|
  J_imul d_P_findMethod_48 <|
  J_iload_n (i := 2) rfl rfl d_P_findMethod_49 <|
  J_iadd d_P_findMethod_50 <|
  J_iload_n (i := 3) rfl rfl d_P_findMethod_51 <|
  J_iast (((((((((h).2) v1 ev1)).2 c7)).2).1 c6)).1 d_P_findMethod_52 <|
  J_vret rfl d_P_findMethod_53 ((((((((((h).2) v1 ev1)).2 c7)).2).1 c6)).2)) (fun c6 =>
  J_aload_n (i := 0) rfl rfl d_P_findMethod_26 <|
  gP_24 rfl d_P_findMethod_27 <|
  J_aload_n (i := 0) rfl rfl d_P_findMethod_30 <|
  gP_9 rfl d_P_findMethod_31 <|
  J_iload_n (i := 1) rfl rfl d_P_findMethod_34 <|
  J_iald (((((((((h).2) v1 ev1)).2 c7)).2).2 c6)).1 d_P_findMethod_35 <|
  J_iconst (v := (nI 4)) d_P_findMethod_36 (by decide) <|
  J_imul d_P_findMethod_37 <|
  J_iload_n (i := 2) rfl rfl d_P_findMethod_38 <|
  J_iadd d_P_findMethod_39 <|
  J_iald ((((((((((h).2) v1 ev1)).2 c7)).2).2 c6)).2).1 d_P_findMethod_40 <|
  J_istore_n (i := 3) (ls' := [some (.inr (1, 0)), some (.inl x1), some (.inl x2), some (.inl (σ 8 (((σ 4 x1.toNatClampNeg) * (nI 4)) + x2).toNatClampNeg))]) rfl rfl rfl rfl d_P_findMethod_41 <|
  J_aload_n (i := 0) rfl rfl d_P_findMethod_42 <|
  gP_24 rfl d_P_findMethod_43 <|
  J_iload_n (i := 1) rfl rfl d_P_findMethod_46 <|
  J_iconst (v := (nI 4)) d_P_findMethod_47 (by decide) <|
  J_imul d_P_findMethod_48 <|
  J_iload_n (i := 2) rfl rfl d_P_findMethod_49 <|
  J_iadd d_P_findMethod_50 <|
  J_iload_n (i := 3) rfl rfl d_P_findMethod_51 <|
  J_iast (((((((((((h).2) v1 ev1)).2 c7)).2).2 c6)).2).2).1 d_P_findMethod_52 <|
  J_vret rfl d_P_findMethod_53 ((((((((((((h).2) v1 ev1)).2 c7)).2).2 c6)).2).2).2))))
theorem r_P_nextStatement_0 {Q : Option mV → mS → Prop} {σ : mS} (h : vp_in (σ 1 3) 60 ∧ (Q (some (.inr (59, (σ 1 3).toNatClampNeg))) σ)) : J M_P_nextStatement Q 0 [some (.inr (1, 0))] [] σ :=
  J_aload_n (i := 0) rfl rfl d_P_nextStatement_0 <|
  gP_35 rfl d_P_nextStatement_1 <|
  J_aload_n (i := 0) rfl rfl d_P_nextStatement_4 <|
  gP_63 rfl d_P_nextStatement_5 <|
  J_aald (h).1 d_P_nextStatement_8 <|
  J_aret rfl d_P_nextStatement_9 ((h).2)
