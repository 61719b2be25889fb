theorem d_M_bring_0 : decode prog_7_method_23_code 0 = .ok (.aload_n 0, 1) := by decide +kernel
theorem d_M_bring_1 : decode prog_7_method_23_code 1 = .ok (.getfield 22, 3) := by decide +kernel
theorem d_M_bring_4 : decode prog_7_method_23_code 4 = .ok (.iload_n 1, 1) := by decide +kernel
theorem d_M_bring_5 : decode prog_7_method_23_code 5 = .ok (.iaload, 1) := by decide +kernel
theorem d_M_bring_6 : decode prog_7_method_23_code 6 = .ok (.istore_n 3, 1) := by decide +kernel
theorem d_M_bring_7 : decode prog_7_method_23_code 7 = .ok (.iload_n 3, 1) := by decide +kernel
theorem d_M_bring_8 : decode prog_7_method_23_code 8 = .ok (.iload_n 2, 1) := by decide +kernel
theorem d_M_bring_9 : decode prog_7_method_23_code 9 = .ok (.aload_n 0, 1) := by decide +kernel
theorem d_M_bring_10 : decode prog_7_method_23_code 10 = .ok (.getfield 28, 3) := by decide +kernel
theorem d_M_bring_13 : decode prog_7_method_23_code 13 = .ok (.iload_n 1, 1) := by decide +kernel
theorem d_M_bring_14 : decode prog_7_method_23_code 14 = .ok (.iaload, 1) := by decide +kernel
theorem d_M_bring_15 : decode prog_7_method_23_code 15 = .ok (.invokestatic 166, 3) := by decide +kernel
theorem d_M_bring_18 : decode prog_7_method_23_code 18 = .ok (.istore 4, 2) := by decide +kernel
theorem d_M_bring_20 : decode prog_7_method_23_code 20 = .ok (.aload_n 0, 1) := by decide +kernel
theorem d_M_bring_21 : decode prog_7_method_23_code 21 = .ok (.getfield 25, 3) := by decide +kernel
theorem d_M_bring_24 : decode prog_7_method_23_code 24 = .ok (.iload_n 1, 1) := by decide +kernel
theorem d_M_bring_25 : decode prog_7_method_23_code 25 = .ok (.iaload, 1) := by decide +kernel
theorem d_M_bring_26 : decode prog_7_method_23_code 26 = .ok (.bipush 6, 2) := by decide +kernel
theorem d_M_bring_28 : decode prog_7_method_23_code 28 = .ok (.if_icmp .ne 7, 3) := by decide +kernel
theorem d_M_bring_31 : decode prog_7_method_23_code 31 = .ok (.iconst 0, 1) := by decide +kernel
theorem d_M_bring_32 : decode prog_7_method_23_code 32 = .ok (.goto 10, 3) := by decide +kernel
theorem d_M_bring_35 : decode prog_7_method_23_code 35 = .ok (.aload_n 0, 1) := by decide +kernel
theorem d_M_bring_36 : decode prog_7_method_23_code 36 = .ok (.getfield 49, 3) := by decide +kernel
theorem d_M_bring_39 : decode prog_7_method_23_code 39 = .ok (.iload 4, 2) := by decide +kernel
theorem d_M_bring_41 : decode prog_7_method_23_code 41 = .ok (.iaload, 1) := by decide +kernel
theorem d_M_bring_42 : decode prog_7_method_23_code 42 = .ok (.istore 5, 2) := by decide +kernel
theorem d_M_bring_44 : decode prog_7_method_23_code 44 = .ok (.aload_n 0, 1) := by decide +kernel
theorem d_M_bring_45 : decode prog_7_method_23_code 45 = .ok (.getfield 25, 3) := by decide +kernel
theorem d_M_bring_48 : decode prog_7_method_23_code 48 = .ok (.iload_n 1, 1) := by decide +kernel
theorem d_M_bring_49 : decode prog_7_method_23_code 49 = .ok (.iaload, 1) := by decide +kernel
theorem d_M_bring_50 : decode prog_7_method_23_code 50 = .ok (.ifCond .eq 13, 3) := by decide +kernel
theorem d_M_bring_53 : decode prog_7_method_23_code 53 = .ok (.aload_n 0, 1) := by decide +kernel
theorem d_M_bring_54 : decode prog_7_method_23_code 54 = .ok (.getfield 25, 3) := by decide +kernel
theorem d_M_bring_57 : decode prog_7_method_23_code 57 = .ok (.iload_n 1, 1) := by decide +kernel
theorem d_M_bring_58 : decode prog_7_method_23_code 58 = .ok (.iaload, 1) := by decide +kernel
theorem d_M_bring_59 : decode prog_7_method_23_code 59 = .ok (.iconst 5, 1) := by decide +kernel
theorem d_M_bring_60 : decode prog_7_method_23_code 60 = .ok (.if_icmp .ne 7, 3) := by decide +kernel
theorem d_M_bring_63 : decode prog_7_method_23_code 63 = .ok (.iconst 0, 1) := by decide +kernel
theorem d_M_bring_64 : decode prog_7_method_23_code 64 = .ok (.goto 19, 3) := by decide +kernel
theorem d_M_bring_67 : decode prog_7_method_23_code 67 = .ok (.aload_n 0, 1) := by decide +kernel
theorem d_M_bring_68 : decode prog_7_method_23_code 68 = .ok (.getfield 49, 3) := by decide +kernel
theorem d_M_bring_71 : decode prog_7_method_23_code 71 = .ok (.iload_n 3, 1) := by decide +kernel
theorem d_M_bring_72 : decode prog_7_method_23_code 72 = .ok (.iload_n 2, 1) := by decide +kernel
theorem d_M_bring_73 : decode prog_7_method_23_code 73 = .ok (.aload_n 0, 1) := by decide +kernel
theorem d_M_bring_74 : decode prog_7_method_23_code 74 = .ok (.getfield 31, 3) := by decide +kernel
theorem d_M_bring_77 : decode prog_7_method_23_code 77 = .ok (.iload_n 1, 1) := by decide +kernel
theorem d_M_bring_78 : decode prog_7_method_23_code 78 = .ok (.iaload, 1) := by decide +kernel
theorem d_M_bring_79 : decode prog_7_method_23_code 79 = .ok (.invokestatic 166, 3) := by decide +kernel
theorem d_M_bring_82 : decode prog_7_method_23_code 82 = .ok (.iaload, 1) := by decide +kernel
theorem d_M_bring_83 : decode prog_7_method_23_code 83 = .ok (.istore 6, 2) := by decide +kernel
theorem d_M_bring_85 : decode prog_7_method_23_code 85 = .ok (.aload_n 0, 1) := by decide +kernel
theorem d_M_bring_86 : decode prog_7_method_23_code 86 = .ok (.getfield 25, 3) := by decide +kernel
theorem d_M_bring_89 : decode prog_7_method_23_code 89 = .ok (.iload_n 1, 1) := by decide +kernel
theorem d_M_bring_90 : decode prog_7_method_23_code 90 = .ok (.iaload, 1) := by decide +kernel
theorem d_M_bring_91 : decode prog_7_method_23_code 91 = .ok (.tableswitch 137 0 7 #[45, 66, 137, 137, 137, 81, 105, 124], 45) := by decide +kernel
theorem d_M_bring_136 : decode prog_7_method_23_code 136 = .ok (.aload_n 0, 1) := by decide +kernel
theorem d_M_bring_137 : decode prog_7_method_23_code 137 = .ok (.getfield 52, 3) := by decide +kernel
theorem d_M_bring_140 : decode prog_7_method_23_code 140 = .ok (.iload 4, 2) := by decide +kernel
theorem d_M_bring_142 : decode prog_7_method_23_code 142 = .ok (.dup2, 1) := by decide +kernel
theorem d_M_bring_143 : decode prog_7_method_23_code 143 = .ok (.iaload, 1) := by decide +kernel
theorem d_M_bring_144 : decode prog_7_method_23_code 144 = .ok (.iconst 1, 1) := by decide +kernel
theorem d_M_bring_145 : decode prog_7_method_23_code 145 = .ok (.aload_n 0, 1) := by decide +kernel
theorem d_M_bring_146 : decode prog_7_method_23_code 146 = .ok (.getfield 43, 3) := by decide +kernel
theorem d_M_bring_149 : decode prog_7_method_23_code 149 = .ok (.iload_n 1, 1) := by decide +kernel
theorem d_M_bring_150 : decode prog_7_method_23_code 150 = .ok (.iaload, 1) := by decide +kernel
theorem d_M_bring_151 : decode prog_7_method_23_code 151 = .ok (.ishl, 1) := by decide +kernel
theorem d_M_bring_152 : decode prog_7_method_23_code 152 = .ok (.ior, 1) := by decide +kernel
theorem d_M_bring_153 : decode prog_7_method_23_code 153 = .ok (.iastore, 1) := by decide +kernel
theorem d_M_bring_154 : decode prog_7_method_23_code 154 = .ok (.goto 85, 3) := by decide +kernel
theorem d_M_bring_157 : decode prog_7_method_23_code 157 = .ok (.aload_n 0, 1) := by decide +kernel
theorem d_M_bring_158 : decode prog_7_method_23_code 158 = .ok (.getfield 52, 3) := by decide +kernel
theorem d_M_bring_161 : decode prog_7_method_23_code 161 = .ok (.iload 4, 2) := by decide +kernel
theorem d_M_bring_163 : decode prog_7_method_23_code 163 = .ok (.dup2, 1) := by decide +kernel
theorem d_M_bring_164 : decode prog_7_method_23_code 164 = .ok (.iaload, 1) := by decide +kernel
theorem d_M_bring_165 : decode prog_7_method_23_code 165 = .ok (.iload 6, 2) := by decide +kernel
theorem d_M_bring_167 : decode prog_7_method_23_code 167 = .ok (.ior, 1) := by decide +kernel
theorem d_M_bring_168 : decode prog_7_method_23_code 168 = .ok (.iastore, 1) := by decide +kernel
theorem d_M_bring_169 : decode prog_7_method_23_code 169 = .ok (.goto 70, 3) := by decide +kernel
theorem d_M_bring_172 : decode prog_7_method_23_code 172 = .ok (.aload_n 0, 1) := by decide +kernel
theorem d_M_bring_173 : decode prog_7_method_23_code 173 = .ok (.getfield 52, 3) := by decide +kernel
theorem d_M_bring_176 : decode prog_7_method_23_code 176 = .ok (.iload 4, 2) := by decide +kernel
theorem d_M_bring_178 : decode prog_7_method_23_code 178 = .ok (.dup2, 1) := by decide +kernel
theorem d_M_bring_179 : decode prog_7_method_23_code 179 = .ok (.iaload, 1) := by decide +kernel
theorem d_M_bring_180 : decode prog_7_method_23_code 180 = .ok (.aload_n 0, 1) := by decide +kernel
theorem d_M_bring_181 : decode prog_7_method_23_code 181 = .ok (.getfield 67, 3) := by decide +kernel
theorem d_M_bring_184 : decode prog_7_method_23_code 184 = .ok (.aload_n 0, 1) := by decide +kernel
theorem d_M_bring_185 : decode prog_7_method_23_code 185 = .ok (.getfield 31, 3) := by decide +kernel
theorem d_M_bring_188 : decode prog_7_method_23_code 188 = .ok (.iload_n 1, 1) := by decide +kernel
theorem d_M_bring_189 : decode prog_7_method_23_code 189 = .ok (.iaload, 1) := by decide +kernel
theorem d_M_bring_190 : decode prog_7_method_23_code 190 = .ok (.iaload, 1) := by decide +kernel
theorem d_M_bring_191 : decode prog_7_method_23_code 191 = .ok (.ior, 1) := by decide +kernel
theorem d_M_bring_192 : decode prog_7_method_23_code 192 = .ok (.iastore, 1) := by decide +kernel
theorem d_M_bring_193 : decode prog_7_method_23_code 193 = .ok (.goto 46, 3) := by decide +kernel
theorem d_M_bring_196 : decode prog_7_method_23_code 196 = .ok (.aload_n 0, 1) := by decide +kernel
theorem d_M_bring_197 : decode prog_7_method_23_code 197 = .ok (.getfield 70, 3) := by decide +kernel
theorem d_M_bring_200 : decode prog_7_method_23_code 200 = .ok (.aload_n 0, 1) := by decide +kernel
theorem d_M_bring_201 : decode prog_7_method_23_code 201 = .ok (.getfield 28, 3) := by decide +kernel
theorem d_M_bring_204 : decode prog_7_method_23_code 204 = .ok (.iload_n 1, 1) := by decide +kernel
theorem d_M_bring_205 : decode prog_7_method_23_code 205 = .ok (.iaload, 1) := by decide +kernel
theorem d_M_bring_206 : decode prog_7_method_23_code 206 = .ok (.dup2, 1) := by decide +kernel
theorem d_M_bring_207 : decode prog_7_method_23_code 207 = .ok (.iaload, 1) := by decide +kernel
theorem d_M_bring_208 : decode prog_7_method_23_code 208 = .ok (.iload 6, 2) := by decide +kernel
theorem d_M_bring_210 : decode prog_7_method_23_code 210 = .ok (.ior, 1) := by decide +kernel
theorem d_M_bring_211 : decode prog_7_method_23_code 211 = .ok (.iastore, 1) := by decide +kernel
theorem d_M_bring_212 : decode prog_7_method_23_code 212 = .ok (.goto 27, 3) := by decide +kernel
theorem d_M_bring_215 : decode prog_7_method_23_code 215 = .ok (.aload_n 0, 1) := by decide +kernel
theorem d_M_bring_216 : decode prog_7_method_23_code 216 = .ok (.iload_n 1, 1) := by decide +kernel
theorem d_M_bring_217 : decode prog_7_method_23_code 217 = .ok (.iload_n 2, 1) := by decide +kernel
theorem d_M_bring_218 : decode prog_7_method_23_code 218 = .ok (.iload 6, 2) := by decide +kernel
theorem d_M_bring_220 : decode prog_7_method_23_code 220 = .ok (.iload 4, 2) := by decide +kernel
theorem d_M_bring_222 : decode prog_7_method_23_code 222 = .ok (.invokevirtual 170, 3) := by decide +kernel
theorem d_M_bring_225 : decode prog_7_method_23_code 225 = .ok (.goto 14, 3) := by decide +kernel
theorem d_M_bring_228 : decode prog_7_method_23_code 228 = .ok (.aload_n 0, 1) := by decide +kernel
theorem d_M_bring_229 : decode prog_7_method_23_code 229 = .ok (.iload_n 1, 1) := by decide +kernel
theorem d_M_bring_230 : decode prog_7_method_23_code 230 = .ok (.iload 5, 2) := by decide +kernel
theorem d_M_bring_232 : decode prog_7_method_23_code 232 = .ok (.iload 6, 2) := by decide +kernel
theorem d_M_bring_234 : decode prog_7_method_23_code 234 = .ok (.iload 4, 2) := by decide +kernel
theorem d_M_bring_236 : decode prog_7_method_23_code 236 = .ok (.invokevirtual 174, 3) := by decide +kernel
theorem d_M_bring_239 : decode prog_7_method_23_code 239 = .ok (.return_, 1) := by decide +kernel
theorem d_M_bringEach_0 : decode prog_7_method_24_code 0 = .ok (.iconst 0, 1) := by decide +kernel
theorem d_M_bringEach_1 : decode prog_7_method_24_code 1 = .ok (.istore 5, 2) := by decide +kernel
theorem d_M_bringEach_3 : decode prog_7_method_24_code 3 = .ok (.iload 5, 2) := by decide +kernel
theorem d_M_bringEach_5 : decode prog_7_method_24_code 5 = .ok (.aload_n 0, 1) := by decide +kernel
theorem d_M_bringEach_6 : decode prog_7_method_24_code 6 = .ok (.getfield 160, 3) := by decide +kernel
theorem d_M_bringEach_9 : decode prog_7_method_24_code 9 = .ok (.if_icmp .ge 290, 3) := by decide +kernel
theorem d_M_bringEach_12 : decode prog_7_method_24_code 12 = .ok (.iload_n 2, 1) := by decide +kernel
theorem d_M_bringEach_13 : decode prog_7_method_24_code 13 = .ok (.iload 5, 2) := by decide +kernel
theorem d_M_bringEach_15 : decode prog_7_method_24_code 15 = .ok (.ishr, 1) := by decide +kernel
theorem d_M_bringEach_16 : decode prog_7_method_24_code 16 = .ok (.iconst 1, 1) := by decide +kernel
theorem d_M_bringEach_17 : decode prog_7_method_24_code 17 = .ok (.iand, 1) := by decide +kernel
theorem d_M_bringEach_18 : decode prog_7_method_24_code 18 = .ok (.iconst 1, 1) := by decide +kernel
theorem d_M_bringEach_19 : decode prog_7_method_24_code 19 = .ok (.if_icmp .ne 7, 3) := by decide +kernel
theorem d_M_bringEach_22 : decode prog_7_method_24_code 22 = .ok (.iconst 1, 1) := by decide +kernel
theorem d_M_bringEach_23 : decode prog_7_method_24_code 23 = .ok (.goto 4, 3) := by decide +kernel
theorem d_M_bringEach_26 : decode prog_7_method_24_code 26 = .ok (.iconst 0, 1) := by decide +kernel
theorem d_M_bringEach_27 : decode prog_7_method_24_code 27 = .ok (.istore 6, 2) := by decide +kernel
theorem d_M_bringEach_29 : decode prog_7_method_24_code 29 = .ok (.iload_n 3, 1) := by decide +kernel
theorem d_M_bringEach_30 : decode prog_7_method_24_code 30 = .ok (.iload 5, 2) := by decide +kernel
theorem d_M_bringEach_32 : decode prog_7_method_24_code 32 = .ok (.ishr, 1) := by decide +kernel
theorem d_M_bringEach_33 : decode prog_7_method_24_code 33 = .ok (.iconst 1, 1) := by decide +kernel
theorem d_M_bringEach_34 : decode prog_7_method_24_code 34 = .ok (.iand, 1) := by decide +kernel
theorem d_M_bringEach_35 : decode prog_7_method_24_code 35 = .ok (.iconst 1, 1) := by decide +kernel
theorem d_M_bringEach_36 : decode prog_7_method_24_code 36 = .ok (.if_icmp .ne 7, 3) := by decide +kernel
theorem d_M_bringEach_39 : decode prog_7_method_24_code 39 = .ok (.iconst 1, 1) := by decide +kernel
theorem d_M_bringEach_40 : decode prog_7_method_24_code 40 = .ok (.goto 4, 3) := by decide +kernel
theorem d_M_bringEach_43 : decode prog_7_method_24_code 43 = .ok (.iconst 0, 1) := by decide +kernel
theorem d_M_bringEach_44 : decode prog_7_method_24_code 44 = .ok (.istore 7, 2) := by decide +kernel
theorem d_M_bringEach_46 : decode prog_7_method_24_code 46 = .ok (.aload_n 0, 1) := by decide +kernel
theorem d_M_bringEach_47 : decode prog_7_method_24_code 47 = .ok (.getfield 25, 3) := by decide +kernel
theorem d_M_bringEach_50 : decode prog_7_method_24_code 50 = .ok (.iload_n 1, 1) := by decide +kernel
theorem d_M_bringEach_51 : decode prog_7_method_24_code 51 = .ok (.iaload, 1) := by decide +kernel
theorem d_M_bringEach_52 : decode prog_7_method_24_code 52 = .ok (.tableswitch 221 2 8 #[44, 98, 146, 221, 221, 221, 192], 44) := by decide +kernel
theorem d_M_bringEach_96 : decode prog_7_method_24_code 96 = .ok (.aload_n 0, 1) := by decide +kernel
theorem d_M_bringEach_97 : decode prog_7_method_24_code 97 = .ok (.getfield 52, 3) := by decide +kernel
theorem d_M_bringEach_100 : decode prog_7_method_24_code 100 = .ok (.iload 4, 2) := by decide +kernel
theorem d_M_bringEach_102 : decode prog_7_method_24_code 102 = .ok (.dup2, 1) := by decide +kernel
theorem d_M_bringEach_103 : decode prog_7_method_24_code 103 = .ok (.iaload, 1) := by decide +kernel
theorem d_M_bringEach_104 : decode prog_7_method_24_code 104 = .ok (.iload 7, 2) := by decide +kernel
theorem d_M_bringEach_106 : decode prog_7_method_24_code 106 = .ok (.ifCond .eq 38, 3) := by decide +kernel
theorem d_M_bringEach_109 : decode prog_7_method_24_code 109 = .ok (.aload_n 0, 1) := by decide +kernel
theorem d_M_bringEach_110 : decode prog_7_method_24_code 110 = .ok (.iload 5, 2) := by decide +kernel
theorem d_M_bringEach_112 : decode prog_7_method_24_code 112 = .ok (.aload_n 0, 1) := by decide +kernel
theorem d_M_bringEach_113 : decode prog_7_method_24_code 113 = .ok (.getfield 34, 3) := by decide +kernel
theorem d_M_bringEach_116 : decode prog_7_method_24_code 116 = .ok (.iload_n 1, 1) := by decide +kernel
theorem d_M_bringEach_117 : decode prog_7_method_24_code 117 = .ok (.iaload, 1) := by decide +kernel
theorem d_M_bringEach_118 : decode prog_7_method_24_code 118 = .ok (.invokevirtual 177, 3) := by decide +kernel
theorem d_M_bringEach_121 : decode prog_7_method_24_code 121 = .ok (.ifCond .eq 23, 3) := by decide +kernel
theorem d_M_bringEach_124 : decode prog_7_method_24_code 124 = .ok (.aload_n 0, 1) := by decide +kernel
theorem d_M_bringEach_125 : decode prog_7_method_24_code 125 = .ok (.getfield 55, 3) := by decide +kernel
theorem d_M_bringEach_128 : decode prog_7_method_24_code 128 = .ok (.bipush 8, 2) := by decide +kernel
theorem d_M_bringEach_130 : decode prog_7_method_24_code 130 = .ok (.iload 5, 2) := by decide +kernel
theorem d_M_bringEach_132 : decode prog_7_method_24_code 132 = .ok (.imul, 1) := by decide +kernel
theorem d_M_bringEach_133 : decode prog_7_method_24_code 133 = .ok (.aload_n 0, 1) := by decide +kernel
theorem d_M_bringEach_134 : decode prog_7_method_24_code 134 = .ok (.getfield 34, 3) := by decide +kernel
theorem d_M_bringEach_137 : decode prog_7_method_24_code 137 = .ok (.iload_n 1, 1) := by decide +kernel
theorem d_M_bringEach_138 : decode prog_7_method_24_code 138 = .ok (.iaload, 1) := by decide +kernel
theorem d_M_bringEach_139 : decode prog_7_method_24_code 139 = .ok (.iadd, 1) := by decide +kernel
theorem d_M_bringEach_140 : decode prog_7_method_24_code 140 = .ok (.iaload, 1) := by decide +kernel
theorem d_M_bringEach_141 : decode prog_7_method_24_code 141 = .ok (.goto 4, 3) := by decide +kernel
theorem d_M_bringEach_144 : decode prog_7_method_24_code 144 = .ok (.iconst 0, 1) := by decide +kernel
theorem d_M_bringEach_145 : decode prog_7_method_24_code 145 = .ok (.ior, 1) := by decide +kernel
theorem d_M_bringEach_146 : decode prog_7_method_24_code 146 = .ok (.iastore, 1) := by decide +kernel
theorem d_M_bringEach_147 : decode prog_7_method_24_code 147 = .ok (.goto 146, 3) := by decide +kernel
theorem d_M_bringEach_150 : decode prog_7_method_24_code 150 = .ok (.aload_n 0, 1) := by decide +kernel
theorem d_M_bringEach_151 : decode prog_7_method_24_code 151 = .ok (.getfield 58, 3) := by decide +kernel
theorem d_M_bringEach_154 : decode prog_7_method_24_code 154 = .ok (.bipush 8, 2) := by decide +kernel
theorem d_M_bringEach_156 : decode prog_7_method_24_code 156 = .ok (.iload 5, 2) := by decide +kernel
theorem d_M_bringEach_158 : decode prog_7_method_24_code 158 = .ok (.imul, 1) := by decide +kernel
theorem d_M_bringEach_159 : decode prog_7_method_24_code 159 = .ok (.aload_n 0, 1) := by decide +kernel
theorem d_M_bringEach_160 : decode prog_7_method_24_code 160 = .ok (.getfield 34, 3) := by decide +kernel
theorem d_M_bringEach_163 : decode prog_7_method_24_code 163 = .ok (.iload_n 1, 1) := by decide +kernel
theorem d_M_bringEach_164 : decode prog_7_method_24_code 164 = .ok (.iaload, 1) := by decide +kernel
theorem d_M_bringEach_165 : decode prog_7_method_24_code 165 = .ok (.iadd, 1) := by decide +kernel
theorem d_M_bringEach_166 : decode prog_7_method_24_code 166 = .ok (.dup2, 1) := by decide +kernel
theorem d_M_bringEach_167 : decode prog_7_method_24_code 167 = .ok (.iaload, 1) := by decide +kernel
theorem d_M_bringEach_168 : decode prog_7_method_24_code 168 = .ok (.iload 6, 2) := by decide +kernel
theorem d_M_bringEach_170 : decode prog_7_method_24_code 170 = .ok (.ifCond .eq 22, 3) := by decide +kernel
theorem d_M_bringEach_173 : decode prog_7_method_24_code 173 = .ok (.aload_n 0, 1) := by decide +kernel
theorem d_M_bringEach_174 : decode prog_7_method_24_code 174 = .ok (.iload 5, 2) := by decide +kernel
theorem d_M_bringEach_176 : decode prog_7_method_24_code 176 = .ok (.aload_n 0, 1) := by decide +kernel
theorem d_M_bringEach_177 : decode prog_7_method_24_code 177 = .ok (.getfield 34, 3) := by decide +kernel
theorem d_M_bringEach_180 : decode prog_7_method_24_code 180 = .ok (.iload_n 1, 1) := by decide +kernel
theorem d_M_bringEach_181 : decode prog_7_method_24_code 181 = .ok (.iaload, 1) := by decide +kernel
theorem d_M_bringEach_182 : decode prog_7_method_24_code 182 = .ok (.invokevirtual 177, 3) := by decide +kernel
theorem d_M_bringEach_185 : decode prog_7_method_24_code 185 = .ok (.ifCond .eq 7, 3) := by decide +kernel
theorem d_M_bringEach_188 : decode prog_7_method_24_code 188 = .ok (.iload_n 3, 1) := by decide +kernel
theorem d_M_bringEach_189 : decode prog_7_method_24_code 189 = .ok (.goto 4, 3) := by decide +kernel
theorem d_M_bringEach_192 : decode prog_7_method_24_code 192 = .ok (.iconst 0, 1) := by decide +kernel
theorem d_M_bringEach_193 : decode prog_7_method_24_code 193 = .ok (.ior, 1) := by decide +kernel
theorem d_M_bringEach_194 : decode prog_7_method_24_code 194 = .ok (.iastore, 1) := by decide +kernel
theorem d_M_bringEach_195 : decode prog_7_method_24_code 195 = .ok (.goto 98, 3) := by decide +kernel
theorem d_M_bringEach_198 : decode prog_7_method_24_code 198 = .ok (.aload_n 0, 1) := by decide +kernel
theorem d_M_bringEach_199 : decode prog_7_method_24_code 199 = .ok (.getfield 52, 3) := by decide +kernel
theorem d_M_bringEach_202 : decode prog_7_method_24_code 202 = .ok (.iload 4, 2) := by decide +kernel
theorem d_M_bringEach_204 : decode prog_7_method_24_code 204 = .ok (.dup2, 1) := by decide +kernel
theorem d_M_bringEach_205 : decode prog_7_method_24_code 205 = .ok (.iaload, 1) := by decide +kernel
theorem d_M_bringEach_206 : decode prog_7_method_24_code 206 = .ok (.iload 7, 2) := by decide +kernel
theorem d_M_bringEach_208 : decode prog_7_method_24_code 208 = .ok (.ifCond .eq 30, 3) := by decide +kernel
theorem d_M_bringEach_211 : decode prog_7_method_24_code 211 = .ok (.aload_n 0, 1) := by decide +kernel
theorem d_M_bringEach_212 : decode prog_7_method_24_code 212 = .ok (.aload_n 0, 1) := by decide +kernel
theorem d_M_bringEach_213 : decode prog_7_method_24_code 213 = .ok (.getfield 46, 3) := by decide +kernel
theorem d_M_bringEach_216 : decode prog_7_method_24_code 216 = .ok (.iload 5, 2) := by decide +kernel
theorem d_M_bringEach_218 : decode prog_7_method_24_code 218 = .ok (.iaload, 1) := by decide +kernel
theorem d_M_bringEach_219 : decode prog_7_method_24_code 219 = .ok (.aload_n 0, 1) := by decide +kernel
theorem d_M_bringEach_220 : decode prog_7_method_24_code 220 = .ok (.getfield 34, 3) := by decide +kernel
theorem d_M_bringEach_223 : decode prog_7_method_24_code 223 = .ok (.iload_n 1, 1) := by decide +kernel
theorem d_M_bringEach_224 : decode prog_7_method_24_code 224 = .ok (.iaload, 1) := by decide +kernel
theorem d_M_bringEach_225 : decode prog_7_method_24_code 225 = .ok (.invokevirtual 119, 3) := by decide +kernel
theorem d_M_bringEach_228 : decode prog_7_method_24_code 228 = .ok (.ifCond .eq 10, 3) := by decide +kernel
theorem d_M_bringEach_231 : decode prog_7_method_24_code 231 = .ok (.iconst 1, 1) := by decide +kernel
theorem d_M_bringEach_232 : decode prog_7_method_24_code 232 = .ok (.iload 5, 2) := by decide +kernel
theorem d_M_bringEach_234 : decode prog_7_method_24_code 234 = .ok (.ishl, 1) := by decide +kernel
theorem d_M_bringEach_235 : decode prog_7_method_24_code 235 = .ok (.goto 4, 3) := by decide +kernel
theorem d_M_bringEach_238 : decode prog_7_method_24_code 238 = .ok (.iconst 0, 1) := by decide +kernel
theorem d_M_bringEach_239 : decode prog_7_method_24_code 239 = .ok (.ior, 1) := by decide +kernel
theorem d_M_bringEach_240 : decode prog_7_method_24_code 240 = .ok (.iastore, 1) := by decide +kernel
theorem d_M_bringEach_241 : decode prog_7_method_24_code 241 = .ok (.goto 52, 3) := by decide +kernel
theorem d_M_bringEach_244 : decode prog_7_method_24_code 244 = .ok (.aload_n 0, 1) := by decide +kernel
theorem d_M_bringEach_245 : decode prog_7_method_24_code 245 = .ok (.getfield 52, 3) := by decide +kernel
theorem d_M_bringEach_248 : decode prog_7_method_24_code 248 = .ok (.iload 4, 2) := by decide +kernel
theorem d_M_bringEach_250 : decode prog_7_method_24_code 250 = .ok (.dup2, 1) := by decide +kernel
theorem d_M_bringEach_251 : decode prog_7_method_24_code 251 = .ok (.iaload, 1) := by decide +kernel
theorem d_M_bringEach_252 : decode prog_7_method_24_code 252 = .ok (.iload 7, 2) := by decide +kernel
theorem d_M_bringEach_254 : decode prog_7_method_24_code 254 = .ok (.ifCond .eq 13, 3) := by decide +kernel
theorem d_M_bringEach_257 : decode prog_7_method_24_code 257 = .ok (.aload_n 0, 1) := by decide +kernel
theorem d_M_bringEach_258 : decode prog_7_method_24_code 258 = .ok (.getfield 61, 3) := by decide +kernel
theorem d_M_bringEach_261 : decode prog_7_method_24_code 261 = .ok (.iload 5, 2) := by decide +kernel
theorem d_M_bringEach_263 : decode prog_7_method_24_code 263 = .ok (.iaload, 1) := by decide +kernel
theorem d_M_bringEach_264 : decode prog_7_method_24_code 264 = .ok (.goto 4, 3) := by decide +kernel
theorem d_M_bringEach_267 : decode prog_7_method_24_code 267 = .ok (.iconst 0, 1) := by decide +kernel
theorem d_M_bringEach_268 : decode prog_7_method_24_code 268 = .ok (.ior, 1) := by decide +kernel
theorem d_M_bringEach_269 : decode prog_7_method_24_code 269 = .ok (.iastore, 1) := by decide +kernel
theorem d_M_bringEach_270 : decode prog_7_method_24_code 270 = .ok (.goto 23, 3) := by decide +kernel
theorem d_M_bringEach_273 : decode prog_7_method_24_code 273 = .ok (.aload_n 0, 1) := by decide +kernel
theorem d_M_bringEach_274 : decode prog_7_method_24_code 274 = .ok (.getfield 64, 3) := by decide +kernel
theorem d_M_bringEach_277 : decode prog_7_method_24_code 277 = .ok (.iload 5, 2) := by decide +kernel
theorem d_M_bringEach_279 : decode prog_7_method_24_code 279 = .ok (.dup2, 1) := by decide +kernel
theorem d_M_bringEach_280 : decode prog_7_method_24_code 280 = .ok (.iaload, 1) := by decide +kernel
theorem d_M_bringEach_281 : decode prog_7_method_24_code 281 = .ok (.iload 6, 2) := by decide +kernel
theorem d_M_bringEach_283 : decode prog_7_method_24_code 283 = .ok (.ifCond .eq 7, 3) := by decide +kernel
theorem d_M_bringEach_286 : decode prog_7_method_24_code 286 = .ok (.iload_n 3, 1) := by decide +kernel
theorem d_M_bringEach_287 : decode prog_7_method_24_code 287 = .ok (.goto 4, 3) := by decide +kernel
theorem d_M_bringEach_290 : decode prog_7_method_24_code 290 = .ok (.iconst 0, 1) := by decide +kernel
theorem d_M_bringEach_291 : decode prog_7_method_24_code 291 = .ok (.ior, 1) := by decide +kernel
theorem d_M_bringEach_292 : decode prog_7_method_24_code 292 = .ok (.iastore, 1) := by decide +kernel
theorem d_M_bringEach_293 : decode prog_7_method_24_code 293 = .ok (.iinc 5 1, 3) := by decide +kernel
theorem d_M_bringEach_296 : decode prog_7_method_24_code 296 = .ok (.goto (-293), 3) := by decide +kernel
theorem d_M_bringEach_299 : decode prog_7_method_24_code 299 = .ok (.return_, 1) := by decide +kernel
theorem d_M_call_0 : decode prog_7_method_25_code 0 = .ok (.aload_n 0, 1) := by decide +kernel
theorem d_M_call_1 : decode prog_7_method_25_code 1 = .ok (.getfield 49, 3) := by decide +kernel
theorem d_M_call_4 : decode prog_7_method_25_code 4 = .ok (.aload_n 0, 1) := by decide +kernel
theorem d_M_call_5 : decode prog_7_method_25_code 5 = .ok (.getfield 22, 3) := by decide +kernel
theorem d_M_call_8 : decode prog_7_method_25_code 8 = .ok (.iload_n 1, 1) := by decide +kernel
theorem d_M_call_9 : decode prog_7_method_25_code 9 = .ok (.iaload, 1) := by decide +kernel
theorem d_M_call_10 : decode prog_7_method_25_code 10 = .ok (.iload_n 2, 1) := by decide +kernel
theorem d_M_call_11 : decode prog_7_method_25_code 11 = .ok (.aload_n 0, 1) := by decide +kernel
theorem d_M_call_12 : decode prog_7_method_25_code 12 = .ok (.getfield 37, 3) := by decide +kernel
theorem d_M_call_15 : decode prog_7_method_25_code 15 = .ok (.iload_n 1, 1) := by decide +kernel
theorem d_M_call_16 : decode prog_7_method_25_code 16 = .ok (.iaload, 1) := by decide +kernel
theorem d_M_call_17 : decode prog_7_method_25_code 17 = .ok (.invokestatic 166, 3) := by decide +kernel
theorem d_M_call_20 : decode prog_7_method_25_code 20 = .ok (.iaload, 1) := by decide +kernel
theorem d_M_call_21 : decode prog_7_method_25_code 21 = .ok (.istore 5, 2) := by decide +kernel
theorem d_M_call_23 : decode prog_7_method_25_code 23 = .ok (.aload_n 0, 1) := by decide +kernel
theorem d_M_call_24 : decode prog_7_method_25_code 24 = .ok (.getfield 49, 3) := by decide +kernel
theorem d_M_call_27 : decode prog_7_method_25_code 27 = .ok (.aload_n 0, 1) := by decide +kernel
theorem d_M_call_28 : decode prog_7_method_25_code 28 = .ok (.getfield 22, 3) := by decide +kernel
theorem d_M_call_31 : decode prog_7_method_25_code 31 = .ok (.iload_n 1, 1) := by decide +kernel
theorem d_M_call_32 : decode prog_7_method_25_code 32 = .ok (.iaload, 1) := by decide +kernel
theorem d_M_call_33 : decode prog_7_method_25_code 33 = .ok (.iload_n 2, 1) := by decide +kernel
theorem d_M_call_34 : decode prog_7_method_25_code 34 = .ok (.aload_n 0, 1) := by decide +kernel
theorem d_M_call_35 : decode prog_7_method_25_code 35 = .ok (.getfield 40, 3) := by decide +kernel
theorem d_M_call_38 : decode prog_7_method_25_code 38 = .ok (.iload_n 1, 1) := by decide +kernel
theorem d_M_call_39 : decode prog_7_method_25_code 39 = .ok (.iaload, 1) := by decide +kernel
theorem d_M_call_40 : decode prog_7_method_25_code 40 = .ok (.invokestatic 166, 3) := by decide +kernel
theorem d_M_call_43 : decode prog_7_method_25_code 43 = .ok (.iaload, 1) := by decide +kernel
theorem d_M_call_44 : decode prog_7_method_25_code 44 = .ok (.istore 6, 2) := by decide +kernel
theorem d_M_call_46 : decode prog_7_method_25_code 46 = .ok (.iconst 0, 1) := by decide +kernel
theorem d_M_call_47 : decode prog_7_method_25_code 47 = .ok (.istore 7, 2) := by decide +kernel
theorem d_M_call_49 : decode prog_7_method_25_code 49 = .ok (.iload 7, 2) := by decide +kernel
theorem d_M_call_51 : decode prog_7_method_25_code 51 = .ok (.aload_n 0, 1) := by decide +kernel
theorem d_M_call_52 : decode prog_7_method_25_code 52 = .ok (.getfield 160, 3) := by decide +kernel
theorem d_M_call_55 : decode prog_7_method_25_code 55 = .ok (.if_icmp .ge 160, 3) := by decide +kernel
theorem d_M_call_58 : decode prog_7_method_25_code 58 = .ok (.iload_n 3, 1) := by decide +kernel
theorem d_M_call_59 : decode prog_7_method_25_code 59 = .ok (.iload 7, 2) := by decide +kernel
theorem d_M_call_61 : decode prog_7_method_25_code 61 = .ok (.ishr, 1) := by decide +kernel
theorem d_M_call_62 : decode prog_7_method_25_code 62 = .ok (.iconst 1, 1) := by decide +kernel
theorem d_M_call_63 : decode prog_7_method_25_code 63 = .ok (.iand, 1) := by decide +kernel
theorem d_M_call_64 : decode prog_7_method_25_code 64 = .ok (.iconst 1, 1) := by decide +kernel
theorem d_M_call_65 : decode prog_7_method_25_code 65 = .ok (.if_icmp .ne 23, 3) := by decide +kernel
theorem d_M_call_68 : decode prog_7_method_25_code 68 = .ok (.aload_n 0, 1) := by decide +kernel
theorem d_M_call_69 : decode prog_7_method_25_code 69 = .ok (.aload_n 0, 1) := by decide +kernel
theorem d_M_call_70 : decode prog_7_method_25_code 70 = .ok (.getfield 46, 3) := by decide +kernel
theorem d_M_call_73 : decode prog_7_method_25_code 73 = .ok (.iload 7, 2) := by decide +kernel
theorem d_M_call_75 : decode prog_7_method_25_code 75 = .ok (.iaload, 1) := by decide +kernel
theorem d_M_call_76 : decode prog_7_method_25_code 76 = .ok (.aload_n 0, 1) := by decide +kernel
theorem d_M_call_77 : decode prog_7_method_25_code 77 = .ok (.getfield 34, 3) := by decide +kernel
theorem d_M_call_80 : decode prog_7_method_25_code 80 = .ok (.iload_n 1, 1) := by decide +kernel
theorem d_M_call_81 : decode prog_7_method_25_code 81 = .ok (.iaload, 1) := by decide +kernel
theorem d_M_call_82 : decode prog_7_method_25_code 82 = .ok (.invokevirtual 180, 3) := by decide +kernel
theorem d_M_call_85 : decode prog_7_method_25_code 85 = .ok (.goto 4, 3) := by decide +kernel
theorem d_M_call_88 : decode prog_7_method_25_code 88 = .ok (.iconst (-1), 1) := by decide +kernel
theorem d_M_call_89 : decode prog_7_method_25_code 89 = .ok (.istore 8, 2) := by decide +kernel
theorem d_M_call_91 : decode prog_7_method_25_code 91 = .ok (.iload 8, 2) := by decide +kernel
theorem d_M_call_93 : decode prog_7_method_25_code 93 = .ok (.ifCond .ge 6, 3) := by decide +kernel
theorem d_M_call_96 : decode prog_7_method_25_code 96 = .ok (.goto 113, 3) := by decide +kernel
theorem d_M_call_99 : decode prog_7_method_25_code 99 = .ok (.aload_n 0, 1) := by decide +kernel
theorem d_M_call_100 : decode prog_7_method_25_code 100 = .ok (.getfield 163, 3) := by decide +kernel
theorem d_M_call_103 : decode prog_7_method_25_code 103 = .ok (.ifCond .ne 7, 3) := by decide +kernel
theorem d_M_call_106 : decode prog_7_method_25_code 106 = .ok (.iconst 0, 1) := by decide +kernel
theorem d_M_call_107 : decode prog_7_method_25_code 107 = .ok (.goto 7, 3) := by decide +kernel
theorem d_M_call_110 : decode prog_7_method_25_code 110 = .ok (.iconst 1, 1) := by decide +kernel
theorem d_M_call_111 : decode prog_7_method_25_code 111 = .ok (.iload 7, 2) := by decide +kernel
theorem d_M_call_113 : decode prog_7_method_25_code 113 = .ok (.iadd, 1) := by decide +kernel
theorem d_M_call_114 : decode prog_7_method_25_code 114 = .ok (.istore 9, 2) := by decide +kernel
theorem d_M_call_116 : decode prog_7_method_25_code 116 = .ok (.aload_n 0, 1) := by decide +kernel
theorem d_M_call_117 : decode prog_7_method_25_code 117 = .ok (.getfield 76, 3) := by decide +kernel
theorem d_M_call_120 : decode prog_7_method_25_code 120 = .ok (.iload 8, 2) := by decide +kernel
theorem d_M_call_122 : decode prog_7_method_25_code 122 = .ok (.dup2, 1) := by decide +kernel
theorem d_M_call_123 : decode prog_7_method_25_code 123 = .ok (.iaload, 1) := by decide +kernel
theorem d_M_call_124 : decode prog_7_method_25_code 124 = .ok (.iconst 1, 1) := by decide +kernel
theorem d_M_call_125 : decode prog_7_method_25_code 125 = .ok (.iload 9, 2) := by decide +kernel
theorem d_M_call_127 : decode prog_7_method_25_code 127 = .ok (.ishl, 1) := by decide +kernel
theorem d_M_call_128 : decode prog_7_method_25_code 128 = .ok (.ior, 1) := by decide +kernel
theorem d_M_call_129 : decode prog_7_method_25_code 129 = .ok (.iastore, 1) := by decide +kernel
theorem d_M_call_130 : decode prog_7_method_25_code 130 = .ok (.aload_n 0, 1) := by decide +kernel
theorem d_M_call_131 : decode prog_7_method_25_code 131 = .ok (.getfield 52, 3) := by decide +kernel
theorem d_M_call_134 : decode prog_7_method_25_code 134 = .ok (.iload 8, 2) := by decide +kernel
theorem d_M_call_136 : decode prog_7_method_25_code 136 = .ok (.iload 9, 2) := by decide +kernel
theorem d_M_call_138 : decode prog_7_method_25_code 138 = .ok (.iconst 0, 1) := by decide +kernel
theorem d_M_call_139 : decode prog_7_method_25_code 139 = .ok (.invokestatic 166, 3) := by decide +kernel
theorem d_M_call_142 : decode prog_7_method_25_code 142 = .ok (.dup2, 1) := by decide +kernel
theorem d_M_call_143 : decode prog_7_method_25_code 143 = .ok (.iaload, 1) := by decide +kernel
theorem d_M_call_144 : decode prog_7_method_25_code 144 = .ok (.iconst 1, 1) := by decide +kernel
theorem d_M_call_145 : decode prog_7_method_25_code 145 = .ok (.iload 7, 2) := by decide +kernel
theorem d_M_call_147 : decode prog_7_method_25_code 147 = .ok (.ishl, 1) := by decide +kernel
theorem d_M_call_148 : decode prog_7_method_25_code 148 = .ok (.ior, 1) := by decide +kernel
theorem d_M_call_149 : decode prog_7_method_25_code 149 = .ok (.iastore, 1) := by decide +kernel
theorem d_M_call_150 : decode prog_7_method_25_code 150 = .ok (.aload_n 0, 1) := by decide +kernel
theorem d_M_call_151 : decode prog_7_method_25_code 151 = .ok (.getfield 52, 3) := by decide +kernel
theorem d_M_call_154 : decode prog_7_method_25_code 154 = .ok (.iload 8, 2) := by decide +kernel
theorem d_M_call_156 : decode prog_7_method_25_code 156 = .ok (.iload 9, 2) := by decide +kernel
theorem d_M_call_158 : decode prog_7_method_25_code 158 = .ok (.iconst 1, 1) := by decide +kernel
theorem d_M_call_159 : decode prog_7_method_25_code 159 = .ok (.invokestatic 166, 3) := by decide +kernel
theorem d_M_call_162 : decode prog_7_method_25_code 162 = .ok (.dup2, 1) := by decide +kernel
theorem d_M_call_163 : decode prog_7_method_25_code 163 = .ok (.iaload, 1) := by decide +kernel
theorem d_M_call_164 : decode prog_7_method_25_code 164 = .ok (.iload 5, 2) := by decide +kernel
theorem d_M_call_166 : decode prog_7_method_25_code 166 = .ok (.ior, 1) := by decide +kernel
theorem d_M_call_167 : decode prog_7_method_25_code 167 = .ok (.iastore, 1) := by decide +kernel
theorem d_M_call_168 : decode prog_7_method_25_code 168 = .ok (.aload_n 0, 1) := by decide +kernel
theorem d_M_call_169 : decode prog_7_method_25_code 169 = .ok (.getfield 52, 3) := by decide +kernel
theorem d_M_call_172 : decode prog_7_method_25_code 172 = .ok (.iload 8, 2) := by decide +kernel
theorem d_M_call_174 : decode prog_7_method_25_code 174 = .ok (.iload 9, 2) := by decide +kernel
theorem d_M_call_176 : decode prog_7_method_25_code 176 = .ok (.iconst 2, 1) := by decide +kernel
theorem d_M_call_177 : decode prog_7_method_25_code 177 = .ok (.invokestatic 166, 3) := by decide +kernel
theorem d_M_call_180 : decode prog_7_method_25_code 180 = .ok (.dup2, 1) := by decide +kernel
theorem d_M_call_181 : decode prog_7_method_25_code 181 = .ok (.iaload, 1) := by decide +kernel
theorem d_M_call_182 : decode prog_7_method_25_code 182 = .ok (.iload 6, 2) := by decide +kernel
theorem d_M_call_184 : decode prog_7_method_25_code 184 = .ok (.ior, 1) := by decide +kernel
theorem d_M_call_185 : decode prog_7_method_25_code 185 = .ok (.iastore, 1) := by decide +kernel
theorem d_M_call_186 : decode prog_7_method_25_code 186 = .ok (.aload_n 0, 1) := by decide +kernel
theorem d_M_call_187 : decode prog_7_method_25_code 187 = .ok (.getfield 52, 3) := by decide +kernel
theorem d_M_call_190 : decode prog_7_method_25_code 190 = .ok (.iload 4, 2) := by decide +kernel
theorem d_M_call_192 : decode prog_7_method_25_code 192 = .ok (.dup2, 1) := by decide +kernel
theorem d_M_call_193 : decode prog_7_method_25_code 193 = .ok (.iaload, 1) := by decide +kernel
theorem d_M_call_194 : decode prog_7_method_25_code 194 = .ok (.aload_n 0, 1) := by decide +kernel
theorem d_M_call_195 : decode prog_7_method_25_code 195 = .ok (.getfield 49, 3) := by decide +kernel
theorem d_M_call_198 : decode prog_7_method_25_code 198 = .ok (.iload 8, 2) := by decide +kernel
theorem d_M_call_200 : decode prog_7_method_25_code 200 = .ok (.iload 9, 2) := by decide +kernel
theorem d_M_call_202 : decode prog_7_method_25_code 202 = .ok (.iconst 5, 1) := by decide +kernel
theorem d_M_call_203 : decode prog_7_method_25_code 203 = .ok (.invokestatic 166, 3) := by decide +kernel
theorem d_M_call_206 : decode prog_7_method_25_code 206 = .ok (.iaload, 1) := by decide +kernel
theorem d_M_call_207 : decode prog_7_method_25_code 207 = .ok (.ior, 1) := by decide +kernel
theorem d_M_call_208 : decode prog_7_method_25_code 208 = .ok (.iastore, 1) := by decide +kernel
theorem d_M_call_209 : decode prog_7_method_25_code 209 = .ok (.iinc 7 1, 3) := by decide +kernel
theorem d_M_call_212 : decode prog_7_method_25_code 212 = .ok (.goto (-163), 3) := by decide +kernel
theorem d_M_call_215 : decode prog_7_method_25_code 215 = .ok (.return_, 1) := by decide +kernel
theorem d_M_swap_0 : decode prog_7_method_26_code 0 = .ok (.iconst 0, 1) := by decide +kernel
theorem d_M_swap_1 : decode prog_7_method_26_code 1 = .ok (.istore_n 1, 1) := by decide +kernel
theorem d_M_swap_2 : decode prog_7_method_26_code 2 = .ok (.iload_n 1, 1) := by decide +kernel
theorem d_M_swap_3 : decode prog_7_method_26_code 3 = .ok (.sipush 1260, 3) := by decide +kernel
theorem d_M_swap_6 : decode prog_7_method_26_code 6 = .ok (.if_icmp .ge 21, 3) := by decide +kernel
theorem d_M_swap_9 : decode prog_7_method_26_code 9 = .ok (.aload_n 0, 1) := by decide +kernel
theorem d_M_swap_10 : decode prog_7_method_26_code 10 = .ok (.getfield 49, 3) := by decide +kernel
theorem d_M_swap_13 : decode prog_7_method_26_code 13 = .ok (.iload_n 1, 1) := by decide +kernel
theorem d_M_swap_14 : decode prog_7_method_26_code 14 = .ok (.aload_n 0, 1) := by decide +kernel
theorem d_M_swap_15 : decode prog_7_method_26_code 15 = .ok (.getfield 52, 3) := by decide +kernel
theorem d_M_swap_18 : decode prog_7_method_26_code 18 = .ok (.iload_n 1, 1) := by decide +kernel
theorem d_M_swap_19 : decode prog_7_method_26_code 19 = .ok (.iaload, 1) := by decide +kernel
theorem d_M_swap_20 : decode prog_7_method_26_code 20 = .ok (.iastore, 1) := by decide +kernel
theorem d_M_swap_21 : decode prog_7_method_26_code 21 = .ok (.iinc 1 1, 3) := by decide +kernel
theorem d_M_swap_24 : decode prog_7_method_26_code 24 = .ok (.goto (-22), 3) := by decide +kernel
theorem d_M_swap_27 : decode prog_7_method_26_code 27 = .ok (.iconst 0, 1) := by decide +kernel
theorem d_M_swap_28 : decode prog_7_method_26_code 28 = .ok (.istore_n 1, 1) := by decide +kernel
theorem d_M_swap_29 : decode prog_7_method_26_code 29 = .ok (.iload_n 1, 1) := by decide +kernel
theorem d_M_swap_30 : decode prog_7_method_26_code 30 = .ok (.sipush 160, 3) := by decide +kernel
theorem d_M_swap_33 : decode prog_7_method_26_code 33 = .ok (.if_icmp .ge 21, 3) := by decide +kernel
theorem d_M_swap_36 : decode prog_7_method_26_code 36 = .ok (.aload_n 0, 1) := by decide +kernel
theorem d_M_swap_37 : decode prog_7_method_26_code 37 = .ok (.getfield 55, 3) := by decide +kernel
theorem d_M_swap_40 : decode prog_7_method_26_code 40 = .ok (.iload_n 1, 1) := by decide +kernel
theorem d_M_swap_41 : decode prog_7_method_26_code 41 = .ok (.aload_n 0, 1) := by decide +kernel
theorem d_M_swap_42 : decode prog_7_method_26_code 42 = .ok (.getfield 58, 3) := by decide +kernel
theorem d_M_swap_45 : decode prog_7_method_26_code 45 = .ok (.iload_n 1, 1) := by decide +kernel
theorem d_M_swap_46 : decode prog_7_method_26_code 46 = .ok (.iaload, 1) := by decide +kernel
theorem d_M_swap_47 : decode prog_7_method_26_code 47 = .ok (.iastore, 1) := by decide +kernel
theorem d_M_swap_48 : decode prog_7_method_26_code 48 = .ok (.iinc 1 1, 3) := by decide +kernel
theorem d_M_swap_51 : decode prog_7_method_26_code 51 = .ok (.goto (-22), 3) := by decide +kernel
theorem d_M_swap_54 : decode prog_7_method_26_code 54 = .ok (.iconst 0, 1) := by decide +kernel
theorem d_M_swap_55 : decode prog_7_method_26_code 55 = .ok (.istore_n 1, 1) := by decide +kernel
theorem d_M_swap_56 : decode prog_7_method_26_code 56 = .ok (.iload_n 1, 1) := by decide +kernel
theorem d_M_swap_57 : decode prog_7_method_26_code 57 = .ok (.bipush 20, 2) := by decide +kernel
theorem d_M_swap_59 : decode prog_7_method_26_code 59 = .ok (.if_icmp .ge 21, 3) := by decide +kernel
theorem d_M_swap_62 : decode prog_7_method_26_code 62 = .ok (.aload_n 0, 1) := by decide +kernel
theorem d_M_swap_63 : decode prog_7_method_26_code 63 = .ok (.getfield 61, 3) := by decide +kernel
theorem d_M_swap_66 : decode prog_7_method_26_code 66 = .ok (.iload_n 1, 1) := by decide +kernel
theorem d_M_swap_67 : decode prog_7_method_26_code 67 = .ok (.aload_n 0, 1) := by decide +kernel
theorem d_M_swap_68 : decode prog_7_method_26_code 68 = .ok (.getfield 64, 3) := by decide +kernel
theorem d_M_swap_71 : decode prog_7_method_26_code 71 = .ok (.iload_n 1, 1) := by decide +kernel
theorem d_M_swap_72 : decode prog_7_method_26_code 72 = .ok (.iaload, 1) := by decide +kernel
theorem d_M_swap_73 : decode prog_7_method_26_code 73 = .ok (.iastore, 1) := by decide +kernel
theorem d_M_swap_74 : decode prog_7_method_26_code 74 = .ok (.iinc 1 1, 3) := by decide +kernel
theorem d_M_swap_77 : decode prog_7_method_26_code 77 = .ok (.goto (-21), 3) := by decide +kernel
theorem d_M_swap_80 : decode prog_7_method_26_code 80 = .ok (.iconst 0, 1) := by decide +kernel
theorem d_M_swap_81 : decode prog_7_method_26_code 81 = .ok (.istore_n 1, 1) := by decide +kernel
theorem d_M_swap_82 : decode prog_7_method_26_code 82 = .ok (.iload_n 1, 1) := by decide +kernel
theorem d_M_swap_83 : decode prog_7_method_26_code 83 = .ok (.iconst 4, 1) := by decide +kernel
theorem d_M_swap_84 : decode prog_7_method_26_code 84 = .ok (.if_icmp .ge 21, 3) := by decide +kernel
theorem d_M_swap_87 : decode prog_7_method_26_code 87 = .ok (.aload_n 0, 1) := by decide +kernel
theorem d_M_swap_88 : decode prog_7_method_26_code 88 = .ok (.getfield 67, 3) := by decide +kernel
theorem d_M_swap_91 : decode prog_7_method_26_code 91 = .ok (.iload_n 1, 1) := by decide +kernel
theorem d_M_swap_92 : decode prog_7_method_26_code 92 = .ok (.aload_n 0, 1) := by decide +kernel
theorem d_M_swap_93 : decode prog_7_method_26_code 93 = .ok (.getfield 70, 3) := by decide +kernel
theorem d_M_swap_96 : decode prog_7_method_26_code 96 = .ok (.iload_n 1, 1) := by decide +kernel
theorem d_M_swap_97 : decode prog_7_method_26_code 97 = .ok (.iaload, 1) := by decide +kernel
theorem d_M_swap_98 : decode prog_7_method_26_code 98 = .ok (.iastore, 1) := by decide +kernel
theorem d_M_swap_99 : decode prog_7_method_26_code 99 = .ok (.iinc 1 1, 3) := by decide +kernel
theorem d_M_swap_102 : decode prog_7_method_26_code 102 = .ok (.goto (-20), 3) := by decide +kernel
theorem d_M_swap_105 : decode prog_7_method_26_code 105 = .ok (.iconst 0, 1) := by decide +kernel
theorem d_M_swap_106 : decode prog_7_method_26_code 106 = .ok (.istore_n 1, 1) := by decide +kernel
theorem d_M_swap_107 : decode prog_7_method_26_code 107 = .ok (.iload_n 1, 1) := by decide +kernel
theorem d_M_swap_108 : decode prog_7_method_26_code 108 = .ok (.bipush 10, 2) := by decide +kernel
theorem d_M_swap_110 : decode prog_7_method_26_code 110 = .ok (.if_icmp .ge 21, 3) := by decide +kernel
theorem d_M_swap_113 : decode prog_7_method_26_code 113 = .ok (.aload_n 0, 1) := by decide +kernel
theorem d_M_swap_114 : decode prog_7_method_26_code 114 = .ok (.getfield 73, 3) := by decide +kernel
theorem d_M_swap_117 : decode prog_7_method_26_code 117 = .ok (.iload_n 1, 1) := by decide +kernel
theorem d_M_swap_118 : decode prog_7_method_26_code 118 = .ok (.aload_n 0, 1) := by decide +kernel
theorem d_M_swap_119 : decode prog_7_method_26_code 119 = .ok (.getfield 76, 3) := by decide +kernel
theorem d_M_swap_122 : decode prog_7_method_26_code 122 = .ok (.iload_n 1, 1) := by decide +kernel
theorem d_M_swap_123 : decode prog_7_method_26_code 123 = .ok (.iaload, 1) := by decide +kernel
theorem d_M_swap_124 : decode prog_7_method_26_code 124 = .ok (.iastore, 1) := by decide +kernel
theorem d_M_swap_125 : decode prog_7_method_26_code 125 = .ok (.iinc 1 1, 3) := by decide +kernel
theorem d_M_swap_128 : decode prog_7_method_26_code 128 = .ok (.goto (-21), 3) := by decide +kernel
theorem d_M_swap_131 : decode prog_7_method_26_code 131 = .ok (.return_, 1) := by decide +kernel
theorem d_M_allOf_0 : decode prog_7_method_27_code 0 = .ok (.iconst 0, 1) := by decide +kernel
theorem d_M_allOf_1 : decode prog_7_method_27_code 1 = .ok (.istore_n 3, 1) := by decide +kernel
theorem d_M_allOf_2 : decode prog_7_method_27_code 2 = .ok (.iconst 0, 1) := by decide +kernel
theorem d_M_allOf_3 : decode prog_7_method_27_code 3 = .ok (.istore 4, 2) := by decide +kernel
theorem d_M_allOf_5 : decode prog_7_method_27_code 5 = .ok (.iload 4, 2) := by decide +kernel
theorem d_M_allOf_7 : decode prog_7_method_27_code 7 = .ok (.bipush 21, 2) := by decide +kernel
theorem d_M_allOf_9 : decode prog_7_method_27_code 9 = .ok (.if_icmp .ge 24, 3) := by decide +kernel
theorem d_M_allOf_12 : decode prog_7_method_27_code 12 = .ok (.iload_n 3, 1) := by decide +kernel
theorem d_M_allOf_13 : decode prog_7_method_27_code 13 = .ok (.aload_n 0, 1) := by decide +kernel
theorem d_M_allOf_14 : decode prog_7_method_27_code 14 = .ok (.getfield 49, 3) := by decide +kernel
theorem d_M_allOf_17 : decode prog_7_method_27_code 17 = .ok (.iload_n 1, 1) := by decide +kernel
theorem d_M_allOf_18 : decode prog_7_method_27_code 18 = .ok (.iload 4, 2) := by decide +kernel
theorem d_M_allOf_20 : decode prog_7_method_27_code 20 = .ok (.iload_n 2, 1) := by decide +kernel
theorem d_M_allOf_21 : decode prog_7_method_27_code 21 = .ok (.invokestatic 166, 3) := by decide +kernel
theorem d_M_allOf_24 : decode prog_7_method_27_code 24 = .ok (.iaload, 1) := by decide +kernel
theorem d_M_allOf_25 : decode prog_7_method_27_code 25 = .ok (.ior, 1) := by decide +kernel
theorem d_M_allOf_26 : decode prog_7_method_27_code 26 = .ok (.istore_n 3, 1) := by decide +kernel
theorem d_M_allOf_27 : decode prog_7_method_27_code 27 = .ok (.iinc 4 1, 3) := by decide +kernel
theorem d_M_allOf_30 : decode prog_7_method_27_code 30 = .ok (.goto (-25), 3) := by decide +kernel
theorem d_M_allOf_33 : decode prog_7_method_27_code 33 = .ok (.iload_n 3, 1) := by decide +kernel
theorem d_M_allOf_34 : decode prog_7_method_27_code 34 = .ok (.ireturn, 1) := by decide +kernel
theorem d_M_note_0 : decode prog_7_method_28_code 0 = .ok (.iconst 0, 1) := by decide +kernel
theorem d_M_note_1 : decode prog_7_method_28_code 1 = .ok (.istore_n 2, 1) := by decide +kernel
theorem d_M_note_2 : decode prog_7_method_28_code 2 = .ok (.iload_n 2, 1) := by decide +kernel
theorem d_M_note_3 : decode prog_7_method_28_code 3 = .ok (.aload_n 0, 1) := by decide +kernel
theorem d_M_note_4 : decode prog_7_method_28_code 4 = .ok (.getfield 116, 3) := by decide +kernel
theorem d_M_note_7 : decode prog_7_method_28_code 7 = .ok (.if_icmp .ge 92, 3) := by decide +kernel
theorem d_M_note_10 : decode prog_7_method_28_code 10 = .ok (.iconst 0, 1) := by decide +kernel
theorem d_M_note_11 : decode prog_7_method_28_code 11 = .ok (.istore_n 3, 1) := by decide +kernel
theorem d_M_note_12 : decode prog_7_method_28_code 12 = .ok (.iload_n 3, 1) := by decide +kernel
theorem d_M_note_13 : decode prog_7_method_28_code 13 = .ok (.bipush 6, 2) := by decide +kernel
theorem d_M_note_15 : decode prog_7_method_28_code 15 = .ok (.if_icmp .ge 78, 3) := by decide +kernel
theorem d_M_note_18 : decode prog_7_method_28_code 18 = .ok (.aload_n 0, 1) := by decide +kernel
theorem d_M_note_19 : decode prog_7_method_28_code 19 = .ok (.iload_n 2, 1) := by decide +kernel
theorem d_M_note_20 : decode prog_7_method_28_code 20 = .ok (.iload_n 3, 1) := by decide +kernel
theorem d_M_note_21 : decode prog_7_method_28_code 21 = .ok (.invokevirtual 183, 3) := by decide +kernel
theorem d_M_note_24 : decode prog_7_method_28_code 24 = .ok (.istore 4, 2) := by decide +kernel
theorem d_M_note_26 : decode prog_7_method_28_code 26 = .ok (.iconst 0, 1) := by decide +kernel
theorem d_M_note_27 : decode prog_7_method_28_code 27 = .ok (.istore 5, 2) := by decide +kernel
theorem d_M_note_29 : decode prog_7_method_28_code 29 = .ok (.iload 5, 2) := by decide +kernel
theorem d_M_note_31 : decode prog_7_method_28_code 31 = .ok (.aload_n 0, 1) := by decide +kernel
theorem d_M_note_32 : decode prog_7_method_28_code 32 = .ok (.getfield 160, 3) := by decide +kernel
theorem d_M_note_35 : decode prog_7_method_28_code 35 = .ok (.if_icmp .ge 52, 3) := by decide +kernel
theorem d_M_note_38 : decode prog_7_method_28_code 38 = .ok (.bipush 120, 2) := by decide +kernel
theorem d_M_note_40 : decode prog_7_method_28_code 40 = .ok (.iload_n 2, 1) := by decide +kernel
theorem d_M_note_41 : decode prog_7_method_28_code 41 = .ok (.imul, 1) := by decide +kernel
theorem d_M_note_42 : decode prog_7_method_28_code 42 = .ok (.bipush 20, 2) := by decide +kernel
theorem d_M_note_44 : decode prog_7_method_28_code 44 = .ok (.iload_n 3, 1) := by decide +kernel
theorem d_M_note_45 : decode prog_7_method_28_code 45 = .ok (.imul, 1) := by decide +kernel
theorem d_M_note_46 : decode prog_7_method_28_code 46 = .ok (.iadd, 1) := by decide +kernel
theorem d_M_note_47 : decode prog_7_method_28_code 47 = .ok (.iload 5, 2) := by decide +kernel
theorem d_M_note_49 : decode prog_7_method_28_code 49 = .ok (.iadd, 1) := by decide +kernel
theorem d_M_note_50 : decode prog_7_method_28_code 50 = .ok (.istore 6, 2) := by decide +kernel
theorem d_M_note_52 : decode prog_7_method_28_code 52 = .ok (.iload 4, 2) := by decide +kernel
theorem d_M_note_54 : decode prog_7_method_28_code 54 = .ok (.iload 5, 2) := by decide +kernel
theorem d_M_note_56 : decode prog_7_method_28_code 56 = .ok (.ishr, 1) := by decide +kernel
theorem d_M_note_57 : decode prog_7_method_28_code 57 = .ok (.iconst 1, 1) := by decide +kernel
theorem d_M_note_58 : decode prog_7_method_28_code 58 = .ok (.iand, 1) := by decide +kernel
theorem d_M_note_59 : decode prog_7_method_28_code 59 = .ok (.iconst 1, 1) := by decide +kernel
theorem d_M_note_60 : decode prog_7_method_28_code 60 = .ok (.if_icmp .ne 21, 3) := by decide +kernel
theorem d_M_note_63 : decode prog_7_method_28_code 63 = .ok (.aload_n 0, 1) := by decide +kernel
theorem d_M_note_64 : decode prog_7_method_28_code 64 = .ok (.getfield 79, 3) := by decide +kernel
theorem d_M_note_67 : decode prog_7_method_28_code 67 = .ok (.iload 6, 2) := by decide +kernel
theorem d_M_note_69 : decode prog_7_method_28_code 69 = .ok (.iaload, 1) := by decide +kernel
theorem d_M_note_70 : decode prog_7_method_28_code 70 = .ok (.ifCond .ge 11, 3) := by decide +kernel
theorem d_M_note_73 : decode prog_7_method_28_code 73 = .ok (.aload_n 0, 1) := by decide +kernel
theorem d_M_note_74 : decode prog_7_method_28_code 74 = .ok (.getfield 79, 3) := by decide +kernel
theorem d_M_note_77 : decode prog_7_method_28_code 77 = .ok (.iload 6, 2) := by decide +kernel
theorem d_M_note_79 : decode prog_7_method_28_code 79 = .ok (.iload_n 1, 1) := by decide +kernel
theorem d_M_note_80 : decode prog_7_method_28_code 80 = .ok (.iastore, 1) := by decide +kernel
theorem d_M_note_81 : decode prog_7_method_28_code 81 = .ok (.iinc 5 1, 3) := by decide +kernel
theorem d_M_note_84 : decode prog_7_method_28_code 84 = .ok (.goto (-55), 3) := by decide +kernel
theorem d_M_note_87 : decode prog_7_method_28_code 87 = .ok (.iinc 3 1, 3) := by decide +kernel
theorem d_M_note_90 : decode prog_7_method_28_code 90 = .ok (.goto (-78), 3) := by decide +kernel
theorem d_M_note_93 : decode prog_7_method_28_code 93 = .ok (.iinc 2 1, 3) := by decide +kernel
theorem d_M_note_96 : decode prog_7_method_28_code 96 = .ok (.goto (-94), 3) := by decide +kernel
theorem d_M_note_99 : decode prog_7_method_28_code 99 = .ok (.return_, 1) := by decide +kernel
theorem d_M_know_0 : decode prog_7_method_29_code 0 = .ok (.aload_n 0, 1) := by decide +kernel
theorem d_M_know_1 : decode prog_7_method_29_code 1 = .ok (.getfield 127, 3) := by decide +kernel
theorem d_M_know_4 : decode prog_7_method_29_code 4 = .ok (.ifCond .eq 4, 3) := by decide +kernel
theorem d_M_know_7 : decode prog_7_method_29_code 7 = .ok (.return_, 1) := by decide +kernel
theorem d_M_know_8 : decode prog_7_method_29_code 8 = .ok (.aload_n 0, 1) := by decide +kernel
theorem d_M_know_9 : decode prog_7_method_29_code 9 = .ok (.iconst 1, 1) := by decide +kernel
theorem d_M_know_10 : decode prog_7_method_29_code 10 = .ok (.putfield 127, 3) := by decide +kernel
theorem d_M_know_13 : decode prog_7_method_29_code 13 = .ok (.aload_n 0, 1) := by decide +kernel
theorem d_M_know_14 : decode prog_7_method_29_code 14 = .ok (.invokevirtual 186, 3) := by decide +kernel
theorem d_M_know_17 : decode prog_7_method_29_code 17 = .ok (.aload_n 0, 1) := by decide +kernel
theorem d_M_know_18 : decode prog_7_method_29_code 18 = .ok (.iconst 0, 1) := by decide +kernel
theorem d_M_know_19 : decode prog_7_method_29_code 19 = .ok (.putfield 189, 3) := by decide +kernel
theorem d_M_know_22 : decode prog_7_method_29_code 22 = .ok (.iconst 1, 1) := by decide +kernel
theorem d_M_know_23 : decode prog_7_method_29_code 23 = .ok (.istore_n 1, 1) := by decide +kernel
theorem d_M_know_24 : decode prog_7_method_29_code 24 = .ok (.iload_n 1, 1) := by decide +kernel
theorem d_M_know_25 : decode prog_7_method_29_code 25 = .ok (.ifCond .eq 104, 3) := by decide +kernel
theorem d_M_know_28 : decode prog_7_method_29_code 28 = .ok (.aload_n 0, 1) := by decide +kernel
theorem d_M_know_29 : decode prog_7_method_29_code 29 = .ok (.invokevirtual 192, 3) := by decide +kernel
theorem d_M_know_32 : decode prog_7_method_29_code 32 = .ok (.iconst 0, 1) := by decide +kernel
theorem d_M_know_33 : decode prog_7_method_29_code 33 = .ok (.istore_n 2, 1) := by decide +kernel
theorem d_M_know_34 : decode prog_7_method_29_code 34 = .ok (.iload_n 2, 1) := by decide +kernel
theorem d_M_know_35 : decode prog_7_method_29_code 35 = .ok (.aload_n 0, 1) := by decide +kernel
theorem d_M_know_36 : decode prog_7_method_29_code 36 = .ok (.getfield 157, 3) := by decide +kernel
theorem d_M_know_39 : decode prog_7_method_29_code 39 = .ok (.if_icmp .ge 48, 3) := by decide +kernel
theorem d_M_know_42 : decode prog_7_method_29_code 42 = .ok (.iconst 0, 1) := by decide +kernel
theorem d_M_know_43 : decode prog_7_method_29_code 43 = .ok (.istore_n 3, 1) := by decide +kernel
theorem d_M_know_44 : decode prog_7_method_29_code 44 = .ok (.iload_n 3, 1) := by decide +kernel
theorem d_M_know_45 : decode prog_7_method_29_code 45 = .ok (.bipush 21, 2) := by decide +kernel
theorem d_M_know_47 : decode prog_7_method_29_code 47 = .ok (.if_icmp .ge 34, 3) := by decide +kernel
theorem d_M_know_50 : decode prog_7_method_29_code 50 = .ok (.aload_n 0, 1) := by decide +kernel
theorem d_M_know_51 : decode prog_7_method_29_code 51 = .ok (.getfield 73, 3) := by decide +kernel
theorem d_M_know_54 : decode prog_7_method_29_code 54 = .ok (.aload_n 0, 1) := by decide +kernel
theorem d_M_know_55 : decode prog_7_method_29_code 55 = .ok (.getfield 22, 3) := by decide +kernel
theorem d_M_know_58 : decode prog_7_method_29_code 58 = .ok (.iload_n 2, 1) := by decide +kernel
theorem d_M_know_59 : decode prog_7_method_29_code 59 = .ok (.iaload, 1) := by decide +kernel
theorem d_M_know_60 : decode prog_7_method_29_code 60 = .ok (.iaload, 1) := by decide +kernel
theorem d_M_know_61 : decode prog_7_method_29_code 61 = .ok (.iload_n 3, 1) := by decide +kernel
theorem d_M_know_62 : decode prog_7_method_29_code 62 = .ok (.ishr, 1) := by decide +kernel
theorem d_M_know_63 : decode prog_7_method_29_code 63 = .ok (.iconst 1, 1) := by decide +kernel
theorem d_M_know_64 : decode prog_7_method_29_code 64 = .ok (.iand, 1) := by decide +kernel
theorem d_M_know_65 : decode prog_7_method_29_code 65 = .ok (.iconst 1, 1) := by decide +kernel
theorem d_M_know_66 : decode prog_7_method_29_code 66 = .ok (.if_icmp .ne 9, 3) := by decide +kernel
theorem d_M_know_69 : decode prog_7_method_29_code 69 = .ok (.aload_n 0, 1) := by decide +kernel
theorem d_M_know_70 : decode prog_7_method_29_code 70 = .ok (.iload_n 2, 1) := by decide +kernel
theorem d_M_know_71 : decode prog_7_method_29_code 71 = .ok (.iload_n 3, 1) := by decide +kernel
theorem d_M_know_72 : decode prog_7_method_29_code 72 = .ok (.invokevirtual 195, 3) := by decide +kernel
theorem d_M_know_75 : decode prog_7_method_29_code 75 = .ok (.iinc 3 1, 3) := by decide +kernel
theorem d_M_know_78 : decode prog_7_method_29_code 78 = .ok (.goto (-34), 3) := by decide +kernel
theorem d_M_know_81 : decode prog_7_method_29_code 81 = .ok (.iinc 2 1, 3) := by decide +kernel
theorem d_M_know_84 : decode prog_7_method_29_code 84 = .ok (.goto (-50), 3) := by decide +kernel
theorem d_M_know_87 : decode prog_7_method_29_code 87 = .ok (.aload_n 0, 1) := by decide +kernel
theorem d_M_know_88 : decode prog_7_method_29_code 88 = .ok (.invokevirtual 199, 3) := by decide +kernel
theorem d_M_know_91 : decode prog_7_method_29_code 91 = .ok (.ifCond .ne 7, 3) := by decide +kernel
theorem d_M_know_94 : decode prog_7_method_29_code 94 = .ok (.iconst 1, 1) := by decide +kernel
theorem d_M_know_95 : decode prog_7_method_29_code 95 = .ok (.goto 4, 3) := by decide +kernel
theorem d_M_know_98 : decode prog_7_method_29_code 98 = .ok (.iconst 0, 1) := by decide +kernel
theorem d_M_know_99 : decode prog_7_method_29_code 99 = .ok (.istore_n 1, 1) := by decide +kernel
theorem d_M_know_100 : decode prog_7_method_29_code 100 = .ok (.iload_n 1, 1) := by decide +kernel
theorem d_M_know_101 : decode prog_7_method_29_code 101 = .ok (.ifCond .eq (-77), 3) := by decide +kernel
theorem d_M_know_104 : decode prog_7_method_29_code 104 = .ok (.aload_n 0, 1) := by decide +kernel
theorem d_M_know_105 : decode prog_7_method_29_code 105 = .ok (.invokevirtual 203, 3) := by decide +kernel
theorem d_M_know_108 : decode prog_7_method_29_code 108 = .ok (.aload_n 0, 1) := by decide +kernel
theorem d_M_know_109 : decode prog_7_method_29_code 109 = .ok (.dup, 1) := by decide +kernel
theorem d_M_know_110 : decode prog_7_method_29_code 110 = .ok (.getfield 189, 3) := by decide +kernel
theorem d_M_know_113 : decode prog_7_method_29_code 113 = .ok (.iconst 1, 1) := by decide +kernel
theorem d_M_know_114 : decode prog_7_method_29_code 114 = .ok (.iadd, 1) := by decide +kernel
theorem d_M_know_115 : decode prog_7_method_29_code 115 = .ok (.putfield 189, 3) := by decide +kernel
theorem d_M_know_118 : decode prog_7_method_29_code 118 = .ok (.aload_n 0, 1) := by decide +kernel
theorem d_M_know_119 : decode prog_7_method_29_code 119 = .ok (.aload_n 0, 1) := by decide +kernel
theorem d_M_know_120 : decode prog_7_method_29_code 120 = .ok (.getfield 189, 3) := by decide +kernel
theorem d_M_know_123 : decode prog_7_method_29_code 123 = .ok (.invokevirtual 206, 3) := by decide +kernel
theorem d_M_know_126 : decode prog_7_method_29_code 126 = .ok (.goto (-102), 3) := by decide +kernel
theorem d_M_know_129 : decode prog_7_method_29_code 129 = .ok (.return_, 1) := by decide +kernel
theorem d_M_isContext_0 : decode prog_7_method_30_code 0 = .ok (.iload_n 1, 1) := by decide +kernel
theorem d_M_isContext_1 : decode prog_7_method_30_code 1 = .ok (.ifCond .lt 26, 3) := by decide +kernel
theorem d_M_isContext_4 : decode prog_7_method_30_code 4 = .ok (.iload_n 1, 1) := by decide +kernel
theorem d_M_isContext_5 : decode prog_7_method_30_code 5 = .ok (.aload_n 0, 1) := by decide +kernel
theorem d_M_isContext_6 : decode prog_7_method_30_code 6 = .ok (.getfield 163, 3) := by decide +kernel
theorem d_M_isContext_9 : decode prog_7_method_30_code 9 = .ok (.ifCond .ne 7, 3) := by decide +kernel
theorem d_M_isContext_12 : decode prog_7_method_30_code 12 = .ok (.iconst 0, 1) := by decide +kernel
theorem d_M_isContext_13 : decode prog_7_method_30_code 13 = .ok (.goto 7, 3) := by decide +kernel
theorem d_M_isContext_16 : decode prog_7_method_30_code 16 = .ok (.aload_n 0, 1) := by decide +kernel
theorem d_M_isContext_17 : decode prog_7_method_30_code 17 = .ok (.getfield 160, 3) := by decide +kernel
theorem d_M_isContext_20 : decode prog_7_method_30_code 20 = .ok (.if_icmp .gt 7, 3) := by decide +kernel
theorem d_M_isContext_23 : decode prog_7_method_30_code 23 = .ok (.iconst 1, 1) := by decide +kernel
theorem d_M_isContext_24 : decode prog_7_method_30_code 24 = .ok (.goto 4, 3) := by decide +kernel
theorem d_M_isContext_27 : decode prog_7_method_30_code 27 = .ok (.iconst 0, 1) := by decide +kernel
theorem d_M_isContext_28 : decode prog_7_method_30_code 28 = .ok (.ireturn, 1) := by decide +kernel
theorem d_M_points_0 : decode prog_7_method_31_code 0 = .ok (.aload_n 0, 1) := by decide +kernel
theorem d_M_points_1 : decode prog_7_method_31_code 1 = .ok (.iload_n 1, 1) := by decide +kernel
theorem d_M_points_2 : decode prog_7_method_31_code 2 = .ok (.invokevirtual 150, 3) := by decide +kernel
theorem d_M_points_5 : decode prog_7_method_31_code 5 = .ok (.ifCond .eq 23, 3) := by decide +kernel
theorem d_M_points_8 : decode prog_7_method_31_code 8 = .ok (.iload_n 3, 1) := by decide +kernel
theorem d_M_points_9 : decode prog_7_method_31_code 9 = .ok (.invokestatic 141, 3) := by decide +kernel
theorem d_M_points_12 : decode prog_7_method_31_code 12 = .ok (.ifCond .eq 16, 3) := by decide +kernel
theorem d_M_points_15 : decode prog_7_method_31_code 15 = .ok (.iload_n 2, 1) := by decide +kernel
theorem d_M_points_16 : decode prog_7_method_31_code 16 = .ok (.iconst (-1), 1) := by decide +kernel
theorem d_M_points_17 : decode prog_7_method_31_code 17 = .ok (.if_icmp .eq 13, 3) := by decide +kernel
theorem d_M_points_20 : decode prog_7_method_31_code 20 = .ok (.aload_n 0, 1) := by decide +kernel
theorem d_M_points_21 : decode prog_7_method_31_code 21 = .ok (.iload_n 2, 1) := by decide +kernel
theorem d_M_points_22 : decode prog_7_method_31_code 22 = .ok (.invokevirtual 210, 3) := by decide +kernel
theorem d_M_points_25 : decode prog_7_method_31_code 25 = .ok (.ifCond .ne 5, 3) := by decide +kernel
theorem d_M_points_28 : decode prog_7_method_31_code 28 = .ok (.iconst (-1), 1) := by decide +kernel
theorem d_M_points_29 : decode prog_7_method_31_code 29 = .ok (.ireturn, 1) := by decide +kernel
theorem d_M_points_30 : decode prog_7_method_31_code 30 = .ok (.aload_n 0, 1) := by decide +kernel
theorem d_M_points_31 : decode prog_7_method_31_code 31 = .ok (.invokevirtual 213, 3) := by decide +kernel
theorem d_M_points_34 : decode prog_7_method_31_code 34 = .ok (.iload_n 2, 1) := by decide +kernel
theorem d_M_points_35 : decode prog_7_method_31_code 35 = .ok (.ifCond .ge 12, 3) := by decide +kernel
theorem d_M_points_38 : decode prog_7_method_31_code 38 = .ok (.aload_n 0, 1) := by decide +kernel
theorem d_M_points_39 : decode prog_7_method_31_code 39 = .ok (.iload_n 1, 1) := by decide +kernel
theorem d_M_points_40 : decode prog_7_method_31_code 40 = .ok (.iload_n 3, 1) := by decide +kernel
theorem d_M_points_41 : decode prog_7_method_31_code 41 = .ok (.invokevirtual 183, 3) := by decide +kernel
theorem d_M_points_44 : decode prog_7_method_31_code 44 = .ok (.goto 14, 3) := by decide +kernel
theorem d_M_points_47 : decode prog_7_method_31_code 47 = .ok (.aload_n 0, 1) := by decide +kernel
theorem d_M_points_48 : decode prog_7_method_31_code 48 = .ok (.getfield 49, 3) := by decide +kernel
theorem d_M_points_51 : decode prog_7_method_31_code 51 = .ok (.iload_n 1, 1) := by decide +kernel
theorem d_M_points_52 : decode prog_7_method_31_code 52 = .ok (.iload_n 2, 1) := by decide +kernel
theorem d_M_points_53 : decode prog_7_method_31_code 53 = .ok (.iload_n 3, 1) := by decide +kernel
theorem d_M_points_54 : decode prog_7_method_31_code 54 = .ok (.invokestatic 166, 3) := by decide +kernel
theorem d_M_points_57 : decode prog_7_method_31_code 57 = .ok (.iaload, 1) := by decide +kernel
theorem d_M_points_58 : decode prog_7_method_31_code 58 = .ok (.ireturn, 1) := by decide +kernel
theorem d_M_isSite_0 : decode prog_7_method_32_code 0 = .ok (.iload_n 1, 1) := by decide +kernel
theorem d_M_isSite_1 : decode prog_7_method_32_code 1 = .ok (.ifCond .lt 15, 3) := by decide +kernel
theorem d_M_isSite_4 : decode prog_7_method_32_code 4 = .ok (.iload_n 1, 1) := by decide +kernel
theorem d_M_isSite_5 : decode prog_7_method_32_code 5 = .ok (.aload_n 0, 1) := by decide +kernel
theorem d_M_isSite_6 : decode prog_7_method_32_code 6 = .ok (.getfield 160, 3) := by decide +kernel
theorem d_M_isSite_9 : decode prog_7_method_32_code 9 = .ok (.if_icmp .ge 7, 3) := by decide +kernel
theorem d_M_isSite_12 : decode prog_7_method_32_code 12 = .ok (.iconst 1, 1) := by decide +kernel
theorem d_M_isSite_13 : decode prog_7_method_32_code 13 = .ok (.goto 4, 3) := by decide +kernel
theorem d_M_isSite_16 : decode prog_7_method_32_code 16 = .ok (.iconst 0, 1) := by decide +kernel
theorem d_M_isSite_17 : decode prog_7_method_32_code 17 = .ok (.ireturn, 1) := by decide +kernel
theorem r_M_bring_0 {Q : Option mV → mS → Prop} {σ : mS} {x1 x2 : Int32} (h : vp_in x1 60 ∧ (∀ v1, v1 = (σ 30 x1.toNatClampNeg) → (vp_in x1 60 ∧ (MU M_M_nameAt [.inl v1, .inl x2, .inl (σ 32 x1.toNatClampNeg)] σ (fun r s2 => ∃ r4, r = some (.inl r4) ∧ (vp_in x1 60 ∧ ((¬ (s2 31 x1.toNatClampNeg) = (nI 6) → (vp_in r4 1260 ∧ (J M_M_bring Q 42 [some (.inr (25, 0)), some (.inl x1), some (.inl x2), some (.inl v1), some (.inl r4), none, none] [.inl (s2 39 r4.toNatClampNeg)] s2))) ∧ ((s2 31 x1.toNatClampNeg) = (nI 6) → (J M_M_bring Q 42 [some (.inr (25, 0)), some (.inl x1), some (.inl x2), some (.inl v1), some (.inl r4), none, none] [.inl (0 : Int32)] s2))))))))) : J M_M_bring Q 0 [some (.inr (25, 0)), some (.inl x1), some (.inl x2), none, none, none, none] [] σ :=
  J_aload_n (i := 0) rfl rfl d_M_bring_0 <|
  gM_22 rfl d_M_bring_1 <|
  J_iload_n (i := 1) rfl rfl d_M_bring_4 <|
  J_iald (h).1 d_M_bring_5 <|
  J_namei (fun v1 ev1 =>
  J_istore_n (i := 3) (ls' := [some (.inr (25, 0)), some (.inl x1), some (.inl x2), some (.inl v1), none, none, none]) rfl rfl rfl rfl d_M_bring_6 <|
  J_iload_n (i := 3) rfl rfl d_M_bring_7 <|
  J_iload_n (i := 2) rfl rfl d_M_bring_8 <|
  J_aload_n (i := 0) rfl rfl d_M_bring_9 <|
  gM_28 rfl d_M_bring_10 <|
  J_iload_n (i := 1) rfl rfl d_M_bring_13 <|
  J_iald ((((h).2) v1 ev1)).1 d_M_bring_14 <|
  kM_166_i rfl rfl rfl (args := [.inl v1, .inl x2, .inl (σ 32 x1.toNatClampNeg)]) (((((h).2) v1 ev1)).2) d_M_bring_15 (fun r4 s2 h3 =>
  J_istore (i := 4) (ls' := [some (.inr (25, 0)), some (.inl x1), some (.inl x2), some (.inl v1), some (.inl r4), none, none]) rfl rfl rfl d_M_bring_18 <|
  J_aload_n (i := 0) rfl rfl d_M_bring_20 <|
  gM_25 rfl d_M_bring_21 <|
  J_iload_n (i := 1) rfl rfl d_M_bring_24 <|
  J_iald (h3).1 d_M_bring_25 <|
  J_bipush (v := (nI 6)) d_M_bring_26 (by decide) <|
  J_icmp_ne (tgt := 35) d_M_bring_28 (by decide) (fun c5 =>
  J_aload_n (i := 0) rfl rfl d_M_bring_35 <|
  gM_49 rfl d_M_bring_36 <|
  J_iload (i := 4) rfl d_M_bring_39 <|
  J_iald ((((h3).2).1 c5)).1 d_M_bring_41 <|
  ((((h3).2).1 c5)).2) (fun c5 =>
  J_iconst (v := (0 : Int32)) d_M_bring_31 (by decide) <|
  J_goto (tgt := 42) d_M_bring_32 (by decide) <|
  (((h3).2).2 c5))))
theorem r_M_bring_42 {Q : Option mV → mS → Prop} {σ : mS} {x1 x2 x3 x4 y0 : Int32} {u5 u6 : Option mV} (h : vp_in x1 60 ∧ (((σ 31 x1.toNatClampNeg) = (0 : Int32) → (J M_M_bring Q 83 [some (.inr (25, 0)), some (.inl x1), some (.inl x2), some (.inl x3), some (.inl x4), some (.inl y0), u6] [.inl (0 : Int32)] σ)) ∧ (¬ (σ 31 x1.toNatClampNeg) = (0 : Int32) → (vp_in x1 60 ∧ ((¬ (σ 31 x1.toNatClampNeg) = (nI 5) → (vp_in x1 60 ∧ (MU M_M_nameAt [.inl x3, .inl x2, .inl (σ 33 x1.toNatClampNeg)] σ (fun r s6 => ∃ r8, r = some (.inl r8) ∧ (vp_in r8 1260 ∧ (J M_M_bring Q 83 [some (.inr (25, 0)), some (.inl x1), some (.inl x2), some (.inl x3), some (.inl x4), some (.inl y0), u6] [.inl (s6 39 r8.toNatClampNeg)] s6)))))) ∧ ((σ 31 x1.toNatClampNeg) = (nI 5) → (J M_M_bring Q 83 [some (.inr (25, 0)), some (.inl x1), some (.inl x2), some (.inl x3), some (.inl x4), some (.inl y0), u6] [.inl (0 : Int32)] σ))))))) : J M_M_bring Q 42 [some (.inr (25, 0)), some (.inl x1), some (.inl x2), some (.inl x3), some (.inl x4), u5, u6] [.inl y0] σ :=
  J_istore (i := 5) (ls' := [some (.inr (25, 0)), some (.inl x1), some (.inl x2), some (.inl x3), some (.inl x4), some (.inl y0), u6]) rfl rfl rfl d_M_bring_42 <|
  J_aload_n (i := 0) rfl rfl d_M_bring_44 <|
  gM_25 rfl d_M_bring_45 <|
  J_iload_n (i := 1) rfl rfl d_M_bring_48 <|
  J_iald (h).1 d_M_bring_49 <|
  J_if_eq (tgt := 63) d_M_bring_50 (by decide) (fun c10 =>
  J_iconst (v := (0 : Int32)) d_M_bring_63 (by decide) <|
  J_goto (tgt := 83) d_M_bring_64 (by decide) <|
  (((h).2).1 c10)) (fun c10 =>
  J_aload_n (i := 0) rfl rfl d_M_bring_53 <|
  gM_25 rfl d_M_bring_54 <|
  J_iload_n (i := 1) rfl rfl d_M_bring_57 <|
  J_iald ((((h).2).2 c10)).1 d_M_bring_58 <|
  J_iconst (v := (nI 5)) d_M_bring_59 (by decide) <|
  J_icmp_ne (tgt := 67) d_M_bring_60 (by decide) (fun c9 =>
  J_aload_n (i := 0) rfl rfl d_M_bring_67 <|
  gM_49 rfl d_M_bring_68 <|
  J_iload_n (i := 3) rfl rfl d_M_bring_71 <|
  J_iload_n (i := 2) rfl rfl d_M_bring_72 <|
  J_aload_n (i := 0) rfl rfl d_M_bring_73 <|
  gM_31 rfl d_M_bring_74 <|
  J_iload_n (i := 1) rfl rfl d_M_bring_77 <|
  J_iald (((((((h).2).2 c10)).2).1 c9)).1 d_M_bring_78 <|
  kM_166_i rfl rfl rfl (args := [.inl x3, .inl x2, .inl (σ 33 x1.toNatClampNeg)]) ((((((((h).2).2 c10)).2).1 c9)).2) d_M_bring_79 (fun r8 s6 h7 =>
  J_iald (h7).1 d_M_bring_82 <|
  (h7).2)) (fun c9 =>
  J_iconst (v := (0 : Int32)) d_M_bring_63 (by decide) <|
  J_goto (tgt := 83) d_M_bring_64 (by decide) <|
  ((((((h).2).2 c10)).2).2 c9)))
theorem r_M_bring_83 {Q : Option mV → mS → Prop} {σ : mS} {x1 x2 x4 x5 y0 : Int32} {u3 u6 : Option mV} (h : vp_in x1 60 ∧ (((σ 31 x1.toNatClampNeg) = (0 : Int32) → (vp_in x4 1260 ∧ (vp_in x1 60 ∧ (vp_in x4 1260 ∧ (Q none (m_up σ 40 x4.toNatClampNeg ((σ 40 x4.toNatClampNeg) ||| ((1 : Int32) <<< ((σ 37 x1.toNatClampNeg) &&& 31))))))))) ∧ ((σ 31 x1.toNatClampNeg) = (1 : Int32) → (vp_in x4 1260 ∧ (vp_in x4 1260 ∧ (Q none (m_up σ 40 x4.toNatClampNeg ((σ 40 x4.toNatClampNeg) ||| y0)))))) ∧ ((σ 31 x1.toNatClampNeg) = (nI 5) → (vp_in x4 1260 ∧ (vp_in x1 60 ∧ (vp_in (σ 33 x1.toNatClampNeg) 4 ∧ (vp_in x4 1260 ∧ (Q none (m_up σ 40 x4.toNatClampNeg ((σ 40 x4.toNatClampNeg) ||| (σ 45 (σ 33 x1.toNatClampNeg).toNatClampNeg))))))))) ∧ ((σ 31 x1.toNatClampNeg) = (nI 6) → (vp_in x1 60 ∧ (vp_in (σ 32 x1.toNatClampNeg) 4 ∧ (vp_in (σ 32 x1.toNatClampNeg) 4 ∧ (Q none (m_up σ 46 (σ 32 x1.toNatClampNeg).toNatClampNeg ((σ 46 (σ 32 x1.toNatClampNeg).toNatClampNeg) ||| y0))))))) ∧ ((σ 31 x1.toNatClampNeg) = (nI 7) → (MU M_M_call [.inr (25, 0), .inl x1, .inl x2, .inl y0, .inl x4] σ (fun r s15 => r = none ∧ (Q none s15)))) ∧ (¬ (σ 31 x1.toNatClampNeg) = (0 : Int32) → ¬ (σ 31 x1.toNatClampNeg) = (1 : Int32) → ¬ (σ 31 x1.toNatClampNeg) = (nI 5) → ¬ (σ 31 x1.toNatClampNeg) = (nI 6) → ¬ (σ 31 x1.toNatClampNeg) = (nI 7) → (MU M_M_bringEach [.inr (25, 0), .inl x1, .inl x5, .inl y0, .inl x4] σ (fun r s17 => r = none ∧ (Q none s17)))))) : J M_M_bring Q 83 [some (.inr (25, 0)), some (.inl x1), some (.inl x2), u3, some (.inl x4), some (.inl x5), u6] [.inl y0] σ :=
  J_istore (i := 6) (ls' := [some (.inr (25, 0)), some (.inl x1), some (.inl x2), u3, some (.inl x4), some (.inl x5), some (.inl y0)]) rfl rfl rfl d_M_bring_83 <|
  J_aload_n (i := 0) rfl rfl d_M_bring_85 <|
  gM_25 rfl d_M_bring_86 <|
  J_iload_n (i := 1) rfl rfl d_M_bring_89 <|
  J_iald (h).1 d_M_bring_90 <|
  Classical.byCases (p := (σ 31 x1.toNatClampNeg) = (0 : Int32)) (fun c19 => J_tabIn (tgt := 136) c19 d_M_bring_91 (by decide) (by decide) rfl (by decide) <|
  J_aload_n (i := 0) rfl rfl d_M_bring_136 <|
  gM_52 rfl d_M_bring_137 <|
  J_iload (i := 4) rfl d_M_bring_140 <|
  J_dup2 d_M_bring_142 <|
  J_iald ((((h).2).1 c19)).1 d_M_bring_143 <|
  J_iconst (v := (1 : Int32)) d_M_bring_144 (by decide) <|
  J_aload_n (i := 0) rfl rfl d_M_bring_145 <|
  gM_43 rfl d_M_bring_146 <|
  J_iload_n (i := 1) rfl rfl d_M_bring_149 <|
  J_iald (((((h).2).1 c19)).2).1 d_M_bring_150 <|
  J_ishl d_M_bring_151 <|
  J_ior d_M_bring_152 <|
  J_iast ((((((h).2).1 c19)).2).2).1 d_M_bring_153 <|
  J_goto (tgt := 239) d_M_bring_154 (by decide) <|
  J_vret rfl d_M_bring_239 (((((((h).2).1 c19)).2).2).2)) <| fun c19_0 =>
  Classical.byCases (p := (σ 31 x1.toNatClampNeg) = (1 : Int32)) (fun c19 => J_tabIn (tgt := 157) c19 d_M_bring_91 (by decide) (by decide) rfl (by decide) <|
  J_aload_n (i := 0) rfl rfl d_M_bring_157 <|
  gM_52 rfl d_M_bring_158 <|
  J_iload (i := 4) rfl d_M_bring_161 <|
  J_dup2 d_M_bring_163 <|
  J_iald (((((h).2).2).1 c19)).1 d_M_bring_164 <|
  J_iload (i := 6) rfl d_M_bring_165 <|
  J_ior d_M_bring_167 <|
  J_iast ((((((h).2).2).1 c19)).2).1 d_M_bring_168 <|
  J_goto (tgt := 239) d_M_bring_169 (by decide) <|
  J_vret rfl d_M_bring_239 (((((((h).2).2).1 c19)).2).2)) <| fun c19_1 =>
  Classical.byCases (p := (σ 31 x1.toNatClampNeg) = (nI 5)) (fun c19 => J_tabIn (tgt := 172) c19 d_M_bring_91 (by decide) (by decide) rfl (by decide) <|
  J_aload_n (i := 0) rfl rfl d_M_bring_172 <|
  gM_52 rfl d_M_bring_173 <|
  J_iload (i := 4) rfl d_M_bring_176 <|
  J_dup2 d_M_bring_178 <|
  J_iald ((((((h).2).2).2).1 c19)).1 d_M_bring_179 <|
  J_aload_n (i := 0) rfl rfl d_M_bring_180 <|
  gM_67 rfl d_M_bring_181 <|
  J_aload_n (i := 0) rfl rfl d_M_bring_184 <|
  gM_31 rfl d_M_bring_185 <|
  J_iload_n (i := 1) rfl rfl d_M_bring_188 <|
  J_iald (((((((h).2).2).2).1 c19)).2).1 d_M_bring_189 <|
  J_iald ((((((((h).2).2).2).1 c19)).2).2).1 d_M_bring_190 <|
  J_ior d_M_bring_191 <|
  J_iast (((((((((h).2).2).2).1 c19)).2).2).2).1 d_M_bring_192 <|
  J_goto (tgt := 239) d_M_bring_193 (by decide) <|
  J_vret rfl d_M_bring_239 ((((((((((h).2).2).2).1 c19)).2).2).2).2)) <| fun c19_2 =>
  Classical.byCases (p := (σ 31 x1.toNatClampNeg) = (nI 6)) (fun c19 => J_tabIn (tgt := 196) c19 d_M_bring_91 (by decide) (by decide) rfl (by decide) <|
  J_aload_n (i := 0) rfl rfl d_M_bring_196 <|
  gM_70 rfl d_M_bring_197 <|
  J_aload_n (i := 0) rfl rfl d_M_bring_200 <|
  gM_28 rfl d_M_bring_201 <|
  J_iload_n (i := 1) rfl rfl d_M_bring_204 <|
  J_iald (((((((h).2).2).2).2).1 c19)).1 d_M_bring_205 <|
  J_dup2 d_M_bring_206 <|
  J_iald ((((((((h).2).2).2).2).1 c19)).2).1 d_M_bring_207 <|
  J_iload (i := 6) rfl d_M_bring_208 <|
  J_ior d_M_bring_210 <|
  J_iast (((((((((h).2).2).2).2).1 c19)).2).2).1 d_M_bring_211 <|
  J_goto (tgt := 239) d_M_bring_212 (by decide) <|
  J_vret rfl d_M_bring_239 ((((((((((h).2).2).2).2).1 c19)).2).2).2)) <| fun c19_3 =>
  Classical.byCases (p := (σ 31 x1.toNatClampNeg) = (nI 7)) (fun c19 => J_tabIn (tgt := 215) c19 d_M_bring_91 (by decide) (by decide) rfl (by decide) <|
  J_aload_n (i := 0) rfl rfl d_M_bring_215 <|
  J_iload_n (i := 1) rfl rfl d_M_bring_216 <|
  J_iload_n (i := 2) rfl rfl d_M_bring_217 <|
  J_iload (i := 6) rfl d_M_bring_218 <|
  J_iload (i := 4) rfl d_M_bring_220 <|
  kM_170_v rfl rfl rfl (args := [.inl x1, .inl x2, .inl y0, .inl x4]) ((((((((h).2).2).2).2).2).1 c19)) d_M_bring_222 (fun s15 h16 =>
  J_goto (tgt := 239) d_M_bring_225 (by decide) <|
  J_vret rfl d_M_bring_239 (h16))) <| fun c19_4 =>
  Classical.byCases (p := (σ 31 x1.toNatClampNeg) = (nI 2)) (fun c19 => J_tabIn (tgt := 228) c19 d_M_bring_91 (by decide) (by decide) rfl (by decide) <|
  J_aload_n (i := 0) rfl rfl d_M_bring_228 <|
  J_iload_n (i := 1) rfl rfl d_M_bring_229 <|
  J_iload (i := 5) rfl d_M_bring_230 <|
  J_iload (i := 6) rfl d_M_bring_232 <|
  J_iload (i := 4) rfl d_M_bring_234 <|
  kM_174_v rfl rfl rfl (args := [.inl x1, .inl x5, .inl y0, .inl x4]) (((((((((h).2).2).2).2).2).2) c19_0 c19_1 c19_2 c19_3 c19_4)) d_M_bring_236 (fun s17 h18 =>
  J_vret rfl d_M_bring_239 (h18))) <| fun c19e2 =>
  Classical.byCases (p := (σ 31 x1.toNatClampNeg) = (nI 3)) (fun c19 => J_tabIn (tgt := 228) c19 d_M_bring_91 (by decide) (by decide) rfl (by decide) <|
  J_aload_n (i := 0) rfl rfl d_M_bring_228 <|
  J_iload_n (i := 1) rfl rfl d_M_bring_229 <|
  J_iload (i := 5) rfl d_M_bring_230 <|
  J_iload (i := 6) rfl d_M_bring_232 <|
  J_iload (i := 4) rfl d_M_bring_234 <|
  kM_174_v rfl rfl rfl (args := [.inl x1, .inl x5, .inl y0, .inl x4]) (((((((((h).2).2).2).2).2).2) c19_0 c19_1 c19_2 c19_3 c19_4)) d_M_bring_236 (fun s17 h18 =>
  J_vret rfl d_M_bring_239 (h18))) <| fun c19e3 =>
  Classical.byCases (p := (σ 31 x1.toNatClampNeg) = (nI 4)) (fun c19 => J_tabIn (tgt := 228) c19 d_M_bring_91 (by decide) (by decide) rfl (by decide) <|
  J_aload_n (i := 0) rfl rfl d_M_bring_228 <|
  J_iload_n (i := 1) rfl rfl d_M_bring_229 <|
  J_iload (i := 5) rfl d_M_bring_230 <|
  J_iload (i := 6) rfl d_M_bring_232 <|
  J_iload (i := 4) rfl d_M_bring_234 <|
  kM_174_v rfl rfl rfl (args := [.inl x1, .inl x5, .inl y0, .inl x4]) (((((((((h).2).2).2).2).2).2) c19_0 c19_1 c19_2 c19_3 c19_4)) d_M_bring_236 (fun s17 h18 =>
  J_vret rfl d_M_bring_239 (h18))) <| fun c19e4 =>
  J_tabOut (x := (σ 31 x1.toNatClampNeg)) (tgt := 228) (by have q0 := lv_neT (a := 0) c19_0 (by decide); have q1 := lv_neT (a := 1) c19_1 (by decide); have q2 := lv_neT (a := 2) c19e2 (by decide); have q3 := lv_neT (a := 3) c19e3 (by decide); have q4 := lv_neT (a := 4) c19e4 (by decide); have q5 := lv_neT (a := 5) c19_2 (by decide); have q6 := lv_neT (a := 6) c19_3 (by decide); have q7 := lv_neT (a := 7) c19_4 (by decide); omega) d_M_bring_91 (by decide) <|
  J_aload_n (i := 0) rfl rfl d_M_bring_228 <|
  J_iload_n (i := 1) rfl rfl d_M_bring_229 <|
  J_iload (i := 5) rfl d_M_bring_230 <|
  J_iload (i := 6) rfl d_M_bring_232 <|
  J_iload (i := 4) rfl d_M_bring_234 <|
  kM_174_v rfl rfl rfl (args := [.inl x1, .inl x5, .inl y0, .inl x4]) (((((((((h).2).2).2).2).2).2) c19_0 c19_1 c19_2 c19_3 c19_4)) d_M_bring_236 (fun s17 h18 =>
  J_vret rfl d_M_bring_239 (h18))
theorem r_M_bringEach_0 {Q : Option mV → mS → Prop} {σ : mS} {x1 x2 x3 x4 : Int32} (h : J M_M_bringEach Q 3 [some (.inr (25, 0)), some (.inl x1), some (.inl x2), some (.inl x3), some (.inl x4), some (.inl (0 : Int32)), none, none] [] σ) : J M_M_bringEach Q 0 [some (.inr (25, 0)), some (.inl x1), some (.inl x2), some (.inl x3), some (.inl x4), none, none, none] [] σ :=
  J_iconst (v := (0 : Int32)) d_M_bringEach_0 (by decide) <|
  J_istore (i := 5) (ls' := [some (.inr (25, 0)), some (.inl x1), some (.inl x2), some (.inl x3), some (.inl x4), some (.inl (0 : Int32)), none, none]) rfl rfl rfl d_M_bringEach_1 <|
  h
theorem r_M_bringEach_3 {Q : Option mV → mS → Prop} {σ : mS} {x1 x2 x3 x4 x5 : Int32} {u6 u7 : Option mV} (h : ((σ 25 16) ≤ x5 → (Q none σ)) ∧ (¬ (σ 25 16) ≤ x5 → ((¬ ((x2 >>> (x5 &&& 31)) &&& (1 : Int32)) = (1 : Int32) → ((¬ ((x3 >>> (x5 &&& 31)) &&& (1 : Int32)) = (1 : Int32) → (J M_M_bringEach Q 44 [some (.inr (25, 0)), some (.inl x1), some (.inl x2), some (.inl x3), some (.inl x4), some (.inl x5), some (.inl (0 : Int32)), u7] [.inl (0 : Int32)] σ)) ∧ (((x3 >>> (x5 &&& 31)) &&& (1 : Int32)) = (1 : Int32) → (J M_M_bringEach Q 44 [some (.inr (25, 0)), some (.inl x1), some (.inl x2), some (.inl x3), some (.inl x4), some (.inl x5), some (.inl (0 : Int32)), u7] [.inl (1 : Int32)] σ)))) ∧ (((x2 >>> (x5 &&& 31)) &&& (1 : Int32)) = (1 : Int32) → ((¬ ((x3 >>> (x5 &&& 31)) &&& (1 : Int32)) = (1 : Int32) → (J M_M_bringEach Q 44 [some (.inr (25, 0)), some (.inl x1), some (.inl x2), some (.inl x3), some (.inl x4), some (.inl x5), some (.inl (1 : Int32)), u7] [.inl (0 : Int32)] σ)) ∧ (((x3 >>> (x5 &&& 31)) &&& (1 : Int32)) = (1 : Int32) → (J M_M_bringEach Q 44 [some (.inr (25, 0)), some (.inl x1), some (.inl x2), some (.inl x3), some (.inl x4), some (.inl x5), some (.inl (1 : Int32)), u7] [.inl (1 : Int32)] σ))))))) : J M_M_bringEach Q 3 [some (.inr (25, 0)), some (.inl x1), some (.inl x2), some (.inl x3), some (.inl x4), some (.inl x5), u6, u7] [] σ :=
  J_iload (i := 5) rfl d_M_bringEach_3 <|
  J_aload_n (i := 0) rfl rfl d_M_bringEach_5 <|
  gM_160 rfl d_M_bringEach_6 <|
  J_icmp_ge (tgt := 299) d_M_bringEach_9 (by decide) (fun c4 =>
  J_vret rfl d_M_bringEach_299 (((h).1 c4))) (fun c4 =>
  J_iload_n (i := 2) rfl rfl d_M_bringEach_12 <|
  J_iload (i := 5) rfl d_M_bringEach_13 <|
  J_ishr d_M_bringEach_15 <|
  J_iconst (v := (1 : Int32)) d_M_bringEach_16 (by decide) <|
  J_iand d_M_bringEach_17 <|
  J_iconst (v := (1 : Int32)) d_M_bringEach_18 (by decide) <|
  J_icmp_ne (tgt := 26) d_M_bringEach_19 (by decide) (fun c3 =>
  J_iconst (v := (0 : Int32)) d_M_bringEach_26 (by decide) <|
  J_istore (i := 6) (ls' := [some (.inr (25, 0)), some (.inl x1), some (.inl x2), some (.inl x3), some (.inl x4), some (.inl x5), some (.inl (0 : Int32)), u7]) rfl rfl rfl d_M_bringEach_27 <|
  J_iload_n (i := 3) rfl rfl d_M_bringEach_29 <|
  J_iload (i := 5) rfl d_M_bringEach_30 <|
  J_ishr d_M_bringEach_32 <|
  J_iconst (v := (1 : Int32)) d_M_bringEach_33 (by decide) <|
  J_iand d_M_bringEach_34 <|
  J_iconst (v := (1 : Int32)) d_M_bringEach_35 (by decide) <|
  J_icmp_ne (tgt := 43) d_M_bringEach_36 (by decide) (fun c1 =>
  J_iconst (v := (0 : Int32)) d_M_bringEach_43 (by decide) <|
  ((((((h).2 c4)).1 c3)).1 c1)) (fun c1 =>
  J_iconst (v := (1 : Int32)) d_M_bringEach_39 (by decide) <|
  J_goto (tgt := 44) d_M_bringEach_40 (by decide) <|
  ((((((h).2 c4)).1 c3)).2 c1))) (fun c3 =>
  J_iconst (v := (1 : Int32)) d_M_bringEach_22 (by decide) <|
  J_goto (tgt := 27) d_M_bringEach_23 (by decide) <|
  J_istore (i := 6) (ls' := [some (.inr (25, 0)), some (.inl x1), some (.inl x2), some (.inl x3), some (.inl x4), some (.inl x5), some (.inl (1 : Int32)), u7]) rfl rfl rfl d_M_bringEach_27 <|
  J_iload_n (i := 3) rfl rfl d_M_bringEach_29 <|
  J_iload (i := 5) rfl d_M_bringEach_30 <|
  J_ishr d_M_bringEach_32 <|
  J_iconst (v := (1 : Int32)) d_M_bringEach_33 (by decide) <|
  J_iand d_M_bringEach_34 <|
  J_iconst (v := (1 : Int32)) d_M_bringEach_35 (by decide) <|
  J_icmp_ne (tgt := 43) d_M_bringEach_36 (by decide) (fun c2 =>
  J_iconst (v := (0 : Int32)) d_M_bringEach_43 (by decide) <|
  ((((((h).2 c4)).2 c3)).1 c2)) (fun c2 =>
  J_iconst (v := (1 : Int32)) d_M_bringEach_39 (by decide) <|
  J_goto (tgt := 44) d_M_bringEach_40 (by decide) <|
  ((((((h).2 c4)).2 c3)).2 c2))))
theorem r_M_bringEach_44 {Q : Option mV → mS → Prop} {σ : mS} {x1 x2 x3 x4 x5 x6 y0 : Int32} {u7 : Option mV} (h : vp_in x1 60 ∧ (((σ 31 x1.toNatClampNeg) = (nI 2) → (vp_in x4 1260 ∧ ((y0 = (0 : Int32) → (vp_in x4 1260 ∧ (J M_M_bringEach Q 3 [some (.inr (25, 0)), some (.inl x1), some (.inl x2), some (.inl x3), some (.inl x4), some (.inl (x5 + 1)), some (.inl x6), some (.inl y0)] [] (m_up σ 40 x4.toNatClampNeg ((σ 40 x4.toNatClampNeg) ||| (0 : Int32)))))) ∧ (¬ y0 = (0 : Int32) → (vp_in x1 60 ∧ (MU M_M_hasField [.inr (25, 0), .inl x5, .inl (σ 34 x1.toNatClampNeg)] σ (fun r s6 => ∃ r8, r = some (.inl r8) ∧ ((r8 = (0 : Int32) → (vp_in x4 1260 ∧ (J M_M_bringEach Q 3 [some (.inr (25, 0)), some (.inl x1), some (.inl x2), some (.inl x3), some (.inl x4), some (.inl (x5 + 1)), some (.inl x6), some (.inl y0)] [] (m_up s6 40 x4.toNatClampNeg ((σ 40 x4.toNatClampNeg) ||| (0 : Int32)))))) ∧ (¬ r8 = (0 : Int32) → (vp_in x1 60 ∧ (vp_in (((nI 8) * x5) + (s6 34 x1.toNatClampNeg)) 160 ∧ (vp_in x4 1260 ∧ (J M_M_bringEach Q 3 [some (.inr (25, 0)), some (.inl x1), some (.inl x2), some (.inl x3), some (.inl x4), some (.inl (x5 + 1)), some (.inl x6), some (.inl y0)] [] (m_up s6 40 x4.toNatClampNeg ((σ 40 x4.toNatClampNeg) ||| (s6 41 (((nI 8) * x5) + (s6 34 x1.toNatClampNeg)).toNatClampNeg)))))))))))))))) ∧ ((σ 31 x1.toNatClampNeg) = (nI 3) → (vp_in x1 60 ∧ (vp_in (((nI 8) * x5) + (σ 34 x1.toNatClampNeg)) 160 ∧ ((x6 = (0 : Int32) → (vp_in (((nI 8) * x5) + (σ 34 x1.toNatClampNeg)) 160 ∧ (J M_M_bringEach Q 3 [some (.inr (25, 0)), some (.inl x1), some (.inl x2), some (.inl x3), some (.inl x4), some (.inl (x5 + 1)), some (.inl x6), some (.inl y0)] [] (m_up σ 42 (((nI 8) * x5) + (σ 34 x1.toNatClampNeg)).toNatClampNeg ((σ 42 (((nI 8) * x5) + (σ 34 x1.toNatClampNeg)).toNatClampNeg) ||| (0 : Int32)))))) ∧ (¬ x6 = (0 : Int32) → (vp_in x1 60 ∧ (MU M_M_hasField [.inr (25, 0), .inl x5, .inl (σ 34 x1.toNatClampNeg)] σ (fun r s14 => ∃ r16, r = some (.inl r16) ∧ ((r16 = (0 : Int32) → (vp_in (((nI 8) * x5) + (σ 34 x1.toNatClampNeg)) 160 ∧ (J M_M_bringEach Q 3 [some (.inr (25, 0)), some (.inl x1), some (.inl x2), some (.inl x3), some (.inl x4), some (.inl (x5 + 1)), some (.inl x6), some (.inl y0)] [] (m_up s14 42 (((nI 8) * x5) + (σ 34 x1.toNatClampNeg)).toNatClampNeg ((σ 42 (((nI 8) * x5) + (σ 34 x1.toNatClampNeg)).toNatClampNeg) ||| (0 : Int32)))))) ∧ (¬ r16 = (0 : Int32) → (vp_in (((nI 8) * x5) + (σ 34 x1.toNatClampNeg)) 160 ∧ (J M_M_bringEach Q 3 [some (.inr (25, 0)), some (.inl x1), some (.inl x2), some (.inl x3), some (.inl x4), some (.inl (x5 + 1)), some (.inl x6), some (.inl y0)] [] (m_up s14 42 (((nI 8) * x5) + (σ 34 x1.toNatClampNeg)).toNatClampNeg ((σ 42 (((nI 8) * x5) + (σ 34 x1.toNatClampNeg)).toNatClampNeg) ||| x3)))))))))))))) ∧ ((σ 31 x1.toNatClampNeg) = (nI 4) → (vp_in x4 1260 ∧ ((y0 = (0 : Int32) → (vp_in x4 1260 ∧ (J M_M_bringEach Q 3 [some (.inr (25, 0)), some (.inl x1), some (.inl x2), some (.inl x3), some (.inl x4), some (.inl (x5 + 1)), some (.inl x6), some (.inl y0)] [] (m_up σ 40 x4.toNatClampNeg ((σ 40 x4.toNatClampNeg) ||| (0 : Int32)))))) ∧ (¬ y0 = (0 : Int32) → (vp_in x5 20 ∧ (vp_in x1 60 ∧ (MU M_M_isUnder [.inr (25, 0), .inl (σ 38 x5.toNatClampNeg), .inl (σ 34 x1.toNatClampNeg)] σ (fun r s22 => ∃ r24, r = some (.inl r24) ∧ ((r24 = (0 : Int32) → (vp_in x4 1260 ∧ (J M_M_bringEach Q 3 [some (.inr (25, 0)), some (.inl x1), some (.inl x2), some (.inl x3), some (.inl x4), some (.inl (x5 + 1)), some (.inl x6), some (.inl y0)] [] (m_up s22 40 x4.toNatClampNeg ((σ 40 x4.toNatClampNeg) ||| (0 : Int32)))))) ∧ (¬ r24 = (0 : Int32) → (vp_in x4 1260 ∧ (J M_M_bringEach Q 3 [some (.inr (25, 0)), some (.inl x1), some (.inl x2), some (.inl x3), some (.inl x4), some (.inl (x5 + 1)), some (.inl x6), some (.inl y0)] [] (m_up s22 40 x4.toNatClampNeg ((σ 40 x4.toNatClampNeg) ||| ((1 : Int32) <<< (x5 &&& 31)))))))))))))))) ∧ ((σ 31 x1.toNatClampNeg) = (nI 8) → (vp_in x4 1260 ∧ ((y0 = (0 : Int32) → (vp_in x4 1260 ∧ (J M_M_bringEach Q 3 [some (.inr (25, 0)), some (.inl x1), some (.inl x2), some (.inl x3), some (.inl x4), some (.inl (x5 + 1)), some (.inl x6), some (.inl y0)] [] (m_up σ 40 x4.toNatClampNeg ((σ 40 x4.toNatClampNeg) ||| (0 : Int32)))))) ∧ (¬ y0 = (0 : Int32) → (vp_in x5 20 ∧ (vp_in x4 1260 ∧ (J M_M_bringEach Q 3 [some (.inr (25, 0)), some (.inl x1), some (.inl x2), some (.inl x3), some (.inl x4), some (.inl (x5 + 1)), some (.inl x6), some (.inl y0)] [] (m_up σ 40 x4.toNatClampNeg ((σ 40 x4.toNatClampNeg) ||| (σ 43 x5.toNatClampNeg)))))))))) ∧ (¬ (σ 31 x1.toNatClampNeg) = (nI 2) → ¬ (σ 31 x1.toNatClampNeg) = (nI 3) → ¬ (σ 31 x1.toNatClampNeg) = (nI 4) → ¬ (σ 31 x1.toNatClampNeg) = (nI 8) → (vp_in x5 20 ∧ ((x6 = (0 : Int32) → (vp_in x5 20 ∧ (J M_M_bringEach Q 3 [some (.inr (25, 0)), some (.inl x1), some (.inl x2), some (.inl x3), some (.inl x4), some (.inl (x5 + 1)), some (.inl x6), some (.inl y0)] [] (m_up σ 44 x5.toNatClampNeg ((σ 44 x5.toNatClampNeg) ||| (0 : Int32)))))) ∧ (¬ x6 = (0 : Int32) → (vp_in x5 20 ∧ (J M_M_bringEach Q 3 [some (.inr (25, 0)), some (.inl x1), some (.inl x2), some (.inl x3), some (.inl x4), some (.inl (x5 + 1)), some (.inl x6), some (.inl y0)] [] (m_up σ 44 x5.toNatClampNeg ((σ 44 x5.toNatClampNeg) ||| x3)))))))))) : J M_M_bringEach Q 44 [some (.inr (25, 0)), some (.inl x1), some (.inl x2), some (.inl x3), some (.inl x4), some (.inl x5), some (.inl x6), u7] [.inl y0] σ :=
  J_istore (i := 7) (ls' := [some (.inr (25, 0)), some (.inl x1), some (.inl x2), some (.inl x3), some (.inl x4), some (.inl x5), some (.inl x6), some (.inl y0)]) rfl rfl rfl d_M_bringEach_44 <|
  J_aload_n (i := 0) rfl rfl d_M_bringEach_46 <|
  gM_25 rfl d_M_bringEach_47 <|
  J_iload_n (i := 1) rfl rfl d_M_bringEach_50 <|
  J_iald (h).1 d_M_bringEach_51 <|
  Classical.byCases (p := (σ 31 x1.toNatClampNeg) = (nI 2)) (fun c35 => J_tabIn (tgt := 96) c35 d_M_bringEach_52 (by decide) (by decide) rfl (by decide) <|
  J_aload_n (i := 0) rfl rfl d_M_bringEach_96 <|
  gM_52 rfl d_M_bringEach_97 <|
  J_iload (i := 4) rfl d_M_bringEach_100 <|
  J_dup2 d_M_bringEach_102 <|
  J_iald ((((h).2).1 c35)).1 d_M_bringEach_103 <|
  J_iload (i := 7) rfl d_M_bringEach_104 <|
  J_if_eq (tgt := 144) d_M_bringEach_106 (by decide) (fun c12 =>
  J_iconst (v := (0 : Int32)) d_M_bringEach_144 (by decide) <|
  J_ior d_M_bringEach_145 <|
  J_iast (((((((h).2).1 c35)).2).1 c12)).1 d_M_bringEach_146 <|
  J_goto (tgt := 293) d_M_bringEach_147 (by decide) <|
  J_iinc (i := 5) (v := (x5 + 1)) (ls' := [some (.inr (25, 0)), some (.inl x1), some (.inl x2), some (.inl x3), some (.inl x4), some (.inl (x5 + 1)), some (.inl x6), some (.inl y0)]) rfl rfl rfl rfl rfl d_M_bringEach_293 <|
  J_goto (tgt := 3) d_M_bringEach_296 (by decide) <|
  (((((((h).2).1 c35)).2).1 c12)).2) (fun c12 =>
  J_aload_n (i := 0) rfl rfl d_M_bringEach_109 <|
  J_iload (i := 5) rfl d_M_bringEach_110 <|
  J_aload_n (i := 0) rfl rfl d_M_bringEach_112 <|
  gM_34 rfl d_M_bringEach_113 <|
  J_iload_n (i := 1) rfl rfl d_M_bringEach_116 <|
  J_iald (((((((h).2).1 c35)).2).2 c12)).1 d_M_bringEach_117 <|
  kM_177_i rfl rfl rfl (args := [.inl x5, .inl (σ 34 x1.toNatClampNeg)]) ((((((((h).2).1 c35)).2).2 c12)).2) d_M_bringEach_118 (fun r8 s6 h7 =>
  J_if_eq (tgt := 144) d_M_bringEach_121 (by decide) (fun c11 =>
  J_iconst (v := (0 : Int32)) d_M_bringEach_144 (by decide) <|
  J_ior d_M_bringEach_145 <|
  J_iast (((h7).1 c11)).1 d_M_bringEach_146 <|
  J_goto (tgt := 293) d_M_bringEach_147 (by decide) <|
  J_iinc (i := 5) (v := (x5 + 1)) (ls' := [some (.inr (25, 0)), some (.inl x1), some (.inl x2), some (.inl x3), some (.inl x4), some (.inl (x5 + 1)), some (.inl x6), some (.inl y0)]) rfl rfl rfl rfl rfl d_M_bringEach_293 <|
  J_goto (tgt := 3) d_M_bringEach_296 (by decide) <|
  (((h7).1 c11)).2) (fun c11 =>
  J_aload_n (i := 0) rfl rfl d_M_bringEach_124 <|
  gM_55 rfl d_M_bringEach_125 <|
  J_bipush (v := (nI 8)) d_M_bringEach_128 (by decide) <|
  J_iload (i := 5) rfl d_M_bringEach_130 <|
  J_imul d_M_bringEach_132 <|
  J_aload_n (i := 0) rfl rfl d_M_bringEach_133 <|
  gM_34 rfl d_M_bringEach_134 <|
  J_iload_n (i := 1) rfl rfl d_M_bringEach_137 <|
  J_iald (((h7).2 c11)).1 d_M_bringEach_138 <|
  J_iadd d_M_bringEach_139 <|
  J_iald ((((h7).2 c11)).2).1 d_M_bringEach_140 <|
  J_goto (tgt := 145) d_M_bringEach_141 (by decide) <|
  J_ior d_M_bringEach_145 <|
  J_iast (((((h7).2 c11)).2).2).1 d_M_bringEach_146 <|
  J_goto (tgt := 293) d_M_bringEach_147 (by decide) <|
  J_iinc (i := 5) (v := (x5 + 1)) (ls' := [some (.inr (25, 0)), some (.inl x1), some (.inl x2), some (.inl x3), some (.inl x4), some (.inl (x5 + 1)), some (.inl x6), some (.inl y0)]) rfl rfl rfl rfl rfl d_M_bringEach_293 <|
  J_goto (tgt := 3) d_M_bringEach_296 (by decide) <|
  (((((h7).2 c11)).2).2).2)))) <| fun c35_0 =>
  Classical.byCases (p := (σ 31 x1.toNatClampNeg) = (nI 3)) (fun c35 => J_tabIn (tgt := 150) c35 d_M_bringEach_52 (by decide) (by decide) rfl (by decide) <|
  J_aload_n (i := 0) rfl rfl d_M_bringEach_150 <|
  gM_58 rfl d_M_bringEach_151 <|
  J_bipush (v := (nI 8)) d_M_bringEach_154 (by decide) <|
  J_iload (i := 5) rfl d_M_bringEach_156 <|
  J_imul d_M_bringEach_158 <|
  J_aload_n (i := 0) rfl rfl d_M_bringEach_159 <|
  gM_34 rfl d_M_bringEach_160 <|
  J_iload_n (i := 1) rfl rfl d_M_bringEach_163 <|
  J_iald (((((h).2).2).1 c35)).1 d_M_bringEach_164 <|
  J_iadd d_M_bringEach_165 <|
  J_dup2 d_M_bringEach_166 <|
  J_iald ((((((h).2).2).1 c35)).2).1 d_M_bringEach_167 <|
  J_iload (i := 6) rfl d_M_bringEach_168 <|
  J_if_eq (tgt := 192) d_M_bringEach_170 (by decide) (fun c20 =>
  J_iconst (v := (0 : Int32)) d_M_bringEach_192 (by decide) <|
  J_ior d_M_bringEach_193 <|
  J_iast (((((((((h).2).2).1 c35)).2).2).1 c20)).1 d_M_bringEach_194 <|
  J_goto (tgt := 293) d_M_bringEach_195 (by decide) <|
  J_iinc (i := 5) (v := (x5 + 1)) (ls' := [some (.inr (25, 0)), some (.inl x1), some (.inl x2), some (.inl x3), some (.inl x4), some (.inl (x5 + 1)), some (.inl x6), some (.inl y0)]) rfl rfl rfl rfl rfl d_M_bringEach_293 <|
  J_goto (tgt := 3) d_M_bringEach_296 (by decide) <|
  (((((((((h).2).2).1 c35)).2).2).1 c20)).2) (fun c20 =>
  J_aload_n (i := 0) rfl rfl d_M_bringEach_173 <|
  J_iload (i := 5) rfl d_M_bringEach_174 <|
  J_aload_n (i := 0) rfl rfl d_M_bringEach_176 <|
  gM_34 rfl d_M_bringEach_177 <|
  J_iload_n (i := 1) rfl rfl d_M_bringEach_180 <|
  J_iald (((((((((h).2).2).1 c35)).2).2).2 c20)).1 d_M_bringEach_181 <|
  kM_177_i rfl rfl rfl (args := [.inl x5, .inl (σ 34 x1.toNatClampNeg)]) ((((((((((h).2).2).1 c35)).2).2).2 c20)).2) d_M_bringEach_182 (fun r16 s14 h15 =>
  J_if_eq (tgt := 192) d_M_bringEach_185 (by decide) (fun c19 =>
  J_iconst (v := (0 : Int32)) d_M_bringEach_192 (by decide) <|
  J_ior d_M_bringEach_193 <|
  J_iast (((h15).1 c19)).1 d_M_bringEach_194 <|
  J_goto (tgt := 293) d_M_bringEach_195 (by decide) <|
  J_iinc (i := 5) (v := (x5 + 1)) (ls' := [some (.inr (25, 0)), some (.inl x1), some (.inl x2), some (.inl x3), some (.inl x4), some (.inl (x5 + 1)), some (.inl x6), some (.inl y0)]) rfl rfl rfl rfl rfl d_M_bringEach_293 <|
  J_goto (tgt := 3) d_M_bringEach_296 (by decide) <|
  (((h15).1 c19)).2) (fun c19 =>
  J_iload_n (i := 3) rfl rfl d_M_bringEach_188 <|
  J_goto (tgt := 193) d_M_bringEach_189 (by decide) <|
  J_ior d_M_bringEach_193 <|
  J_iast (((h15).2 c19)).1 d_M_bringEach_194 <|
  J_goto (tgt := 293) d_M_bringEach_195 (by decide) <|
  J_iinc (i := 5) (v := (x5 + 1)) (ls' := [some (.inr (25, 0)), some (.inl x1), some (.inl x2), some (.inl x3), some (.inl x4), some (.inl (x5 + 1)), some (.inl x6), some (.inl y0)]) rfl rfl rfl rfl rfl d_M_bringEach_293 <|
  J_goto (tgt := 3) d_M_bringEach_296 (by decide) <|
  (((h15).2 c19)).2)))) <| fun c35_1 =>
  Classical.byCases (p := (σ 31 x1.toNatClampNeg) = (nI 4)) (fun c35 => J_tabIn (tgt := 198) c35 d_M_bringEach_52 (by decide) (by decide) rfl (by decide) <|
  J_aload_n (i := 0) rfl rfl d_M_bringEach_198 <|
  gM_52 rfl d_M_bringEach_199 <|
  J_iload (i := 4) rfl d_M_bringEach_202 <|
  J_dup2 d_M_bringEach_204 <|
  J_iald ((((((h).2).2).2).1 c35)).1 d_M_bringEach_205 <|
  J_iload (i := 7) rfl d_M_bringEach_206 <|
  J_if_eq (tgt := 238) d_M_bringEach_208 (by decide) (fun c28 =>
  J_iconst (v := (0 : Int32)) d_M_bringEach_238 (by decide) <|
  J_ior d_M_bringEach_239 <|
  J_iast (((((((((h).2).2).2).1 c35)).2).1 c28)).1 d_M_bringEach_240 <|
  J_goto (tgt := 293) d_M_bringEach_241 (by decide) <|
  J_iinc (i := 5) (v := (x5 + 1)) (ls' := [some (.inr (25, 0)), some (.inl x1), some (.inl x2), some (.inl x3), some (.inl x4), some (.inl (x5 + 1)), some (.inl x6), some (.inl y0)]) rfl rfl rfl rfl rfl d_M_bringEach_293 <|
  J_goto (tgt := 3) d_M_bringEach_296 (by decide) <|
  (((((((((h).2).2).2).1 c35)).2).1 c28)).2) (fun c28 =>
  J_aload_n (i := 0) rfl rfl d_M_bringEach_211 <|
  J_aload_n (i := 0) rfl rfl d_M_bringEach_212 <|
  gM_46 rfl d_M_bringEach_213 <|
  J_iload (i := 5) rfl d_M_bringEach_216 <|
  J_iald (((((((((h).2).2).2).1 c35)).2).2 c28)).1 d_M_bringEach_218 <|
  J_aload_n (i := 0) rfl rfl d_M_bringEach_219 <|
  gM_34 rfl d_M_bringEach_220 <|
  J_iload_n (i := 1) rfl rfl d_M_bringEach_223 <|
  J_iald ((((((((((h).2).2).2).1 c35)).2).2 c28)).2).1 d_M_bringEach_224 <|
  kM_119_i rfl rfl rfl (args := [.inl (σ 38 x5.toNatClampNeg), .inl (σ 34 x1.toNatClampNeg)]) (((((((((((h).2).2).2).1 c35)).2).2 c28)).2).2) d_M_bringEach_225 (fun r24 s22 h23 =>
  J_if_eq (tgt := 238) d_M_bringEach_228 (by decide) (fun c27 =>
  J_iconst (v := (0 : Int32)) d_M_bringEach_238 (by decide) <|
  J_ior d_M_bringEach_239 <|
  J_iast (((h23).1 c27)).1 d_M_bringEach_240 <|
  J_goto (tgt := 293) d_M_bringEach_241 (by decide) <|
  J_iinc (i := 5) (v := (x5 + 1)) (ls' := [some (.inr (25, 0)), some (.inl x1), some (.inl x2), some (.inl x3), some (.inl x4), some (.inl (x5 + 1)), some (.inl x6), some (.inl y0)]) rfl rfl rfl rfl rfl d_M_bringEach_293 <|
  J_goto (tgt := 3) d_M_bringEach_296 (by decide) <|
  (((h23).1 c27)).2) (fun c27 =>
  J_iconst (v := (1 : Int32)) d_M_bringEach_231 (by decide) <|
  J_iload (i := 5) rfl d_M_bringEach_232 <|
  J_ishl d_M_bringEach_234 <|
  J_goto (tgt := 239) d_M_bringEach_235 (by decide) <|
  J_ior d_M_bringEach_239 <|
  J_iast (((h23).2 c27)).1 d_M_bringEach_240 <|
  J_goto (tgt := 293) d_M_bringEach_241 (by decide) <|
  J_iinc (i := 5) (v := (x5 + 1)) (ls' := [some (.inr (25, 0)), some (.inl x1), some (.inl x2), some (.inl x3), some (.inl x4), some (.inl (x5 + 1)), some (.inl x6), some (.inl y0)]) rfl rfl rfl rfl rfl d_M_bringEach_293 <|
  J_goto (tgt := 3) d_M_bringEach_296 (by decide) <|
  (((h23).2 c27)).2)))) <| fun c35_2 =>
  Classical.byCases (p := (σ 31 x1.toNatClampNeg) = (nI 8)) (fun c35 => J_tabIn (tgt := 244) c35 d_M_bringEach_52 (by decide) (by decide) rfl (by decide) <|
  J_aload_n (i := 0) rfl rfl d_M_bringEach_244 <|
  gM_52 rfl d_M_bringEach_245 <|
  J_iload (i := 4) rfl d_M_bringEach_248 <|
  J_dup2 d_M_bringEach_250 <|
  J_iald (((((((h).2).2).2).2).1 c35)).1 d_M_bringEach_251 <|
  J_iload (i := 7) rfl d_M_bringEach_252 <|
  J_if_eq (tgt := 267) d_M_bringEach_254 (by decide) (fun c31 =>
  J_iconst (v := (0 : Int32)) d_M_bringEach_267 (by decide) <|
  J_ior d_M_bringEach_268 <|
  J_iast ((((((((((h).2).2).2).2).1 c35)).2).1 c31)).1 d_M_bringEach_269 <|
  J_goto (tgt := 293) d_M_bringEach_270 (by decide) <|
  J_iinc (i := 5) (v := (x5 + 1)) (ls' := [some (.inr (25, 0)), some (.inl x1), some (.inl x2), some (.inl x3), some (.inl x4), some (.inl (x5 + 1)), some (.inl x6), some (.inl y0)]) rfl rfl rfl rfl rfl d_M_bringEach_293 <|
  J_goto (tgt := 3) d_M_bringEach_296 (by decide) <|
  ((((((((((h).2).2).2).2).1 c35)).2).1 c31)).2) (fun c31 =>
  J_aload_n (i := 0) rfl rfl d_M_bringEach_257 <|
  gM_61 rfl d_M_bringEach_258 <|
  J_iload (i := 5) rfl d_M_bringEach_261 <|
  J_iald ((((((((((h).2).2).2).2).1 c35)).2).2 c31)).1 d_M_bringEach_263 <|
  J_goto (tgt := 268) d_M_bringEach_264 (by decide) <|
  J_ior d_M_bringEach_268 <|
  J_iast (((((((((((h).2).2).2).2).1 c35)).2).2 c31)).2).1 d_M_bringEach_269 <|
  J_goto (tgt := 293) d_M_bringEach_270 (by decide) <|
  J_iinc (i := 5) (v := (x5 + 1)) (ls' := [some (.inr (25, 0)), some (.inl x1), some (.inl x2), some (.inl x3), some (.inl x4), some (.inl (x5 + 1)), some (.inl x6), some (.inl y0)]) rfl rfl rfl rfl rfl d_M_bringEach_293 <|
  J_goto (tgt := 3) d_M_bringEach_296 (by decide) <|
  (((((((((((h).2).2).2).2).1 c35)).2).2 c31)).2).2)) <| fun c35_3 =>
  Classical.byCases (p := (σ 31 x1.toNatClampNeg) = (nI 5)) (fun c35 => J_tabIn (tgt := 273) c35 d_M_bringEach_52 (by decide) (by decide) rfl (by decide) <|
  J_aload_n (i := 0) rfl rfl d_M_bringEach_273 <|
  gM_64 rfl d_M_bringEach_274 <|
  J_iload (i := 5) rfl d_M_bringEach_277 <|
  J_dup2 d_M_bringEach_279 <|
  J_iald ((((((((h).2).2).2).2).2) c35_0 c35_1 c35_2 c35_3)).1 d_M_bringEach_280 <|
  J_iload (i := 6) rfl d_M_bringEach_281 <|
  J_if_eq (tgt := 290) d_M_bringEach_283 (by decide) (fun c34 =>
  J_iconst (v := (0 : Int32)) d_M_bringEach_290 (by decide) <|
  J_ior d_M_bringEach_291 <|
  J_iast (((((((((((h).2).2).2).2).2) c35_0 c35_1 c35_2 c35_3)).2).1 c34)).1 d_M_bringEach_292 <|
  J_iinc (i := 5) (v := (x5 + 1)) (ls' := [some (.inr (25, 0)), some (.inl x1), some (.inl x2), some (.inl x3), some (.inl x4), some (.inl (x5 + 1)), some (.inl x6), some (.inl y0)]) rfl rfl rfl rfl rfl d_M_bringEach_293 <|
  J_goto (tgt := 3) d_M_bringEach_296 (by decide) <|
  (((((((((((h).2).2).2).2).2) c35_0 c35_1 c35_2 c35_3)).2).1 c34)).2) (fun c34 =>
  J_iload_n (i := 3) rfl rfl d_M_bringEach_286 <|
  J_goto (tgt := 291) d_M_bringEach_287 (by decide) <|
  J_ior d_M_bringEach_291 <|
  J_iast (((((((((((h).2).2).2).2).2) c35_0 c35_1 c35_2 c35_3)).2).2 c34)).1 d_M_bringEach_292 <|
  J_iinc (i := 5) (v := (x5 + 1)) (ls' := [some (.inr (25, 0)), some (.inl x1), some (.inl x2), some (.inl x3), some (.inl x4), some (.inl (x5 + 1)), some (.inl x6), some (.inl y0)]) rfl rfl rfl rfl rfl d_M_bringEach_293 <|
  J_goto (tgt := 3) d_M_bringEach_296 (by decide) <|
  (((((((((((h).2).2).2).2).2) c35_0 c35_1 c35_2 c35_3)).2).2 c34)).2)) <| fun c35e5 =>
  Classical.byCases (p := (σ 31 x1.toNatClampNeg) = (nI 6)) (fun c35 => J_tabIn (tgt := 273) c35 d_M_bringEach_52 (by decide) (by decide) rfl (by decide) <|
  J_aload_n (i := 0) rfl rfl d_M_bringEach_273 <|
  gM_64 rfl d_M_bringEach_274 <|
  J_iload (i := 5) rfl d_M_bringEach_277 <|
  J_dup2 d_M_bringEach_279 <|
  J_iald ((((((((h).2).2).2).2).2) c35_0 c35_1 c35_2 c35_3)).1 d_M_bringEach_280 <|
  J_iload (i := 6) rfl d_M_bringEach_281 <|
  J_if_eq (tgt := 290) d_M_bringEach_283 (by decide) (fun c34 =>
  J_iconst (v := (0 : Int32)) d_M_bringEach_290 (by decide) <|
  J_ior d_M_bringEach_291 <|
  J_iast (((((((((((h).2).2).2).2).2) c35_0 c35_1 c35_2 c35_3)).2).1 c34)).1 d_M_bringEach_292 <|
  J_iinc (i := 5) (v := (x5 + 1)) (ls' := [some (.inr (25, 0)), some (.inl x1), some (.inl x2), some (.inl x3), some (.inl x4), some (.inl (x5 + 1)), some (.inl x6), some (.inl y0)]) rfl rfl rfl rfl rfl d_M_bringEach_293 <|
  J_goto (tgt := 3) d_M_bringEach_296 (by decide) <|
  (((((((((((h).2).2).2).2).2) c35_0 c35_1 c35_2 c35_3)).2).1 c34)).2) (fun c34 =>
  J_iload_n (i := 3) rfl rfl d_M_bringEach_286 <|
  J_goto (tgt := 291) d_M_bringEach_287 (by decide) <|
  J_ior d_M_bringEach_291 <|
  J_iast (((((((((((h).2).2).2).2).2) c35_0 c35_1 c35_2 c35_3)).2).2 c34)).1 d_M_bringEach_292 <|
  J_iinc (i := 5) (v := (x5 + 1)) (ls' := [some (.inr (25, 0)), some (.inl x1), some (.inl x2), some (.inl x3), some (.inl x4), some (.inl (x5 + 1)), some (.inl x6), some (.inl y0)]) rfl rfl rfl rfl rfl d_M_bringEach_293 <|
  J_goto (tgt := 3) d_M_bringEach_296 (by decide) <|
  (((((((((((h).2).2).2).2).2) c35_0 c35_1 c35_2 c35_3)).2).2 c34)).2)) <| fun c35e6 =>
  Classical.byCases (p := (σ 31 x1.toNatClampNeg) = (nI 7)) (fun c35 => J_tabIn (tgt := 273) c35 d_M_bringEach_52 (by decide) (by decide) rfl (by decide) <|
  J_aload_n (i := 0) rfl rfl d_M_bringEach_273 <|
  gM_64 rfl d_M_bringEach_274 <|
  J_iload (i := 5) rfl d_M_bringEach_277 <|
  J_dup2 d_M_bringEach_279 <|
  J_iald ((((((((h).2).2).2).2).2) c35_0 c35_1 c35_2 c35_3)).1 d_M_bringEach_280 <|
  J_iload (i := 6) rfl d_M_bringEach_281 <|
  J_if_eq (tgt := 290) d_M_bringEach_283 (by decide) (fun c34 =>
  J_iconst (v := (0 : Int32)) d_M_bringEach_290 (by decide) <|
  J_ior d_M_bringEach_291 <|
  J_iast (((((((((((h).2).2).2).2).2) c35_0 c35_1 c35_2 c35_3)).2).1 c34)).1 d_M_bringEach_292 <|
  J_iinc (i := 5) (v := (x5 + 1)) (ls' := [some (.inr (25, 0)), some (.inl x1), some (.inl x2), some (.inl x3), some (.inl x4), some (.inl (x5 + 1)), some (.inl x6), some (.inl y0)]) rfl rfl rfl rfl rfl d_M_bringEach_293 <|
  J_goto (tgt := 3) d_M_bringEach_296 (by decide) <|
  (((((((((((h).2).2).2).2).2) c35_0 c35_1 c35_2 c35_3)).2).1 c34)).2) (fun c34 =>
  J_iload_n (i := 3) rfl rfl d_M_bringEach_286 <|
  J_goto (tgt := 291) d_M_bringEach_287 (by decide) <|
  J_ior d_M_bringEach_291 <|
  J_iast (((((((((((h).2).2).2).2).2) c35_0 c35_1 c35_2 c35_3)).2).2 c34)).1 d_M_bringEach_292 <|
  J_iinc (i := 5) (v := (x5 + 1)) (ls' := [some (.inr (25, 0)), some (.inl x1), some (.inl x2), some (.inl x3), some (.inl x4), some (.inl (x5 + 1)), some (.inl x6), some (.inl y0)]) rfl rfl rfl rfl rfl d_M_bringEach_293 <|
  J_goto (tgt := 3) d_M_bringEach_296 (by decide) <|
  (((((((((((h).2).2).2).2).2) c35_0 c35_1 c35_2 c35_3)).2).2 c34)).2)) <| fun c35e7 =>
  J_tabOut (x := (σ 31 x1.toNatClampNeg)) (tgt := 273) (by have q2 := lv_neT (a := 2) c35_0 (by decide); have q3 := lv_neT (a := 3) c35_1 (by decide); have q4 := lv_neT (a := 4) c35_2 (by decide); have q5 := lv_neT (a := 5) c35e5 (by decide); have q6 := lv_neT (a := 6) c35e6 (by decide); have q7 := lv_neT (a := 7) c35e7 (by decide); have q8 := lv_neT (a := 8) c35_3 (by decide); omega) d_M_bringEach_52 (by decide) <|
  J_aload_n (i := 0) rfl rfl d_M_bringEach_273 <|
  gM_64 rfl d_M_bringEach_274 <|
  J_iload (i := 5) rfl d_M_bringEach_277 <|
  J_dup2 d_M_bringEach_279 <|
  J_iald ((((((((h).2).2).2).2).2) c35_0 c35_1 c35_2 c35_3)).1 d_M_bringEach_280 <|
  J_iload (i := 6) rfl d_M_bringEach_281 <|
  J_if_eq (tgt := 290) d_M_bringEach_283 (by decide) (fun c34 =>
  J_iconst (v := (0 : Int32)) d_M_bringEach_290 (by decide) <|
  J_ior d_M_bringEach_291 <|
  J_iast (((((((((((h).2).2).2).2).2) c35_0 c35_1 c35_2 c35_3)).2).1 c34)).1 d_M_bringEach_292 <|
  J_iinc (i := 5) (v := (x5 + 1)) (ls' := [some (.inr (25, 0)), some (.inl x1), some (.inl x2), some (.inl x3), some (.inl x4), some (.inl (x5 + 1)), some (.inl x6), some (.inl y0)]) rfl rfl rfl rfl rfl d_M_bringEach_293 <|
  J_goto (tgt := 3) d_M_bringEach_296 (by decide) <|
  (((((((((((h).2).2).2).2).2) c35_0 c35_1 c35_2 c35_3)).2).1 c34)).2) (fun c34 =>
  J_iload_n (i := 3) rfl rfl d_M_bringEach_286 <|
  J_goto (tgt := 291) d_M_bringEach_287 (by decide) <|
  J_ior d_M_bringEach_291 <|
  J_iast (((((((((((h).2).2).2).2).2) c35_0 c35_1 c35_2 c35_3)).2).2 c34)).1 d_M_bringEach_292 <|
  J_iinc (i := 5) (v := (x5 + 1)) (ls' := [some (.inr (25, 0)), some (.inl x1), some (.inl x2), some (.inl x3), some (.inl x4), some (.inl (x5 + 1)), some (.inl x6), some (.inl y0)]) rfl rfl rfl rfl rfl d_M_bringEach_293 <|
  J_goto (tgt := 3) d_M_bringEach_296 (by decide) <|
  (((((((((((h).2).2).2).2).2) c35_0 c35_1 c35_2 c35_3)).2).2 c34)).2)
theorem r_M_call_0 {Q : Option mV → mS → Prop} {σ : mS} {x1 x2 x3 x4 : Int32} (h : vp_in x1 60 ∧ (vp_in x1 60 ∧ (MU M_M_nameAt [.inl (σ 30 x1.toNatClampNeg), .inl x2, .inl (σ 35 x1.toNatClampNeg)] σ (fun r s1 => ∃ r3, r = some (.inl r3) ∧ (vp_in r3 1260 ∧ (vp_in x1 60 ∧ (vp_in x1 60 ∧ (MU M_M_nameAt [.inl (s1 30 x1.toNatClampNeg), .inl x2, .inl (s1 36 x1.toNatClampNeg)] s1 (fun r s5 => ∃ r7, r = some (.inl r7) ∧ (vp_in r7 1260 ∧ (J M_M_call Q 49 [some (.inr (25, 0)), some (.inl x1), some (.inl x2), some (.inl x3), some (.inl x4), some (.inl (s1 39 r3.toNatClampNeg)), some (.inl (s5 39 r7.toNatClampNeg)), some (.inl (0 : Int32)), none, none] [] s5))))))))))) : J M_M_call Q 0 [some (.inr (25, 0)), some (.inl x1), some (.inl x2), some (.inl x3), some (.inl x4), none, none, none, none, none] [] σ :=
  J_aload_n (i := 0) rfl rfl d_M_call_0 <|
  gM_49 rfl d_M_call_1 <|
  J_aload_n (i := 0) rfl rfl d_M_call_4 <|
  gM_22 rfl d_M_call_5 <|
  J_iload_n (i := 1) rfl rfl d_M_call_8 <|
  J_iald (h).1 d_M_call_9 <|
  J_iload_n (i := 2) rfl rfl d_M_call_10 <|
  J_aload_n (i := 0) rfl rfl d_M_call_11 <|
  gM_37 rfl d_M_call_12 <|
  J_iload_n (i := 1) rfl rfl d_M_call_15 <|
  J_iald ((h).2).1 d_M_call_16 <|
  kM_166_i rfl rfl rfl (args := [.inl (σ 30 x1.toNatClampNeg), .inl x2, .inl (σ 35 x1.toNatClampNeg)]) (((h).2).2) d_M_call_17 (fun r3 s1 h2 =>
  J_iald (h2).1 d_M_call_20 <|
  J_istore (i := 5) (ls' := [some (.inr (25, 0)), some (.inl x1), some (.inl x2), some (.inl x3), some (.inl x4), some (.inl (s1 39 r3.toNatClampNeg)), none, none, none, none]) rfl rfl rfl d_M_call_21 <|
  J_aload_n (i := 0) rfl rfl d_M_call_23 <|
  gM_49 rfl d_M_call_24 <|
  J_aload_n (i := 0) rfl rfl d_M_call_27 <|
  gM_22 rfl d_M_call_28 <|
  J_iload_n (i := 1) rfl rfl d_M_call_31 <|
  J_iald ((h2).2).1 d_M_call_32 <|
  J_iload_n (i := 2) rfl rfl d_M_call_33 <|
  J_aload_n (i := 0) rfl rfl d_M_call_34 <|
  gM_40 rfl d_M_call_35 <|
  J_iload_n (i := 1) rfl rfl d_M_call_38 <|
  J_iald (((h2).2).2).1 d_M_call_39 <|
  kM_166_i rfl rfl rfl (args := [.inl (s1 30 x1.toNatClampNeg), .inl x2, .inl (s1 36 x1.toNatClampNeg)]) ((((h2).2).2).2) d_M_call_40 (fun r7 s5 h6 =>
  J_iald (h6).1 d_M_call_43 <|
  J_istore (i := 6) (ls' := [some (.inr (25, 0)), some (.inl x1), some (.inl x2), some (.inl x3), some (.inl x4), some (.inl (s1 39 r3.toNatClampNeg)), some (.inl (s5 39 r7.toNatClampNeg)), none, none, none]) rfl rfl rfl d_M_call_44 <|
  J_iconst (v := (0 : Int32)) d_M_call_46 (by decide) <|
  J_istore (i := 7) (ls' := [some (.inr (25, 0)), some (.inl x1), some (.inl x2), some (.inl x3), some (.inl x4), some (.inl (s1 39 r3.toNatClampNeg)), some (.inl (s5 39 r7.toNatClampNeg)), some (.inl (0 : Int32)), none, none]) rfl rfl rfl d_M_call_47 <|
  (h6).2))
theorem r_M_call_49 {Q : Option mV → mS → Prop} {σ : mS} {x1 x3 x4 x5 x6 x7 : Int32} {u2 u8 u9 : Option mV} (h : ((σ 25 16) ≤ x7 → (Q none σ)) ∧ (¬ (σ 25 16) ≤ x7 → ((¬ ((x3 >>> (x7 &&& 31)) &&& (1 : Int32)) = (1 : Int32) → (((0 : Int32) ≤ (-1 : Int32) → ((¬ (σ 25 18) = (0 : Int32) → (J M_M_call Q 114 [some (.inr (25, 0)), some (.inl x1), u2, some (.inl x3), some (.inl x4), some (.inl x5), some (.inl x6), some (.inl x7), some (.inl (-1 : Int32)), u9] [.inl ((1 : Int32) + x7)] σ)) ∧ ((σ 25 18) = (0 : Int32) → (J M_M_call Q 114 [some (.inr (25, 0)), some (.inl x1), u2, some (.inl x3), some (.inl x4), some (.inl x5), some (.inl x6), some (.inl x7), some (.inl (-1 : Int32)), u9] [.inl (0 : Int32)] σ)))) ∧ (¬ (0 : Int32) ≤ (-1 : Int32) → (J M_M_call Q 49 [some (.inr (25, 0)), some (.inl x1), u2, some (.inl x3), some (.inl x4), some (.inl x5), some (.inl x6), some (.inl (x7 + 1)), some (.inl (-1 : Int32)), u9] [] σ)))) ∧ (((x3 >>> (x7 &&& 31)) &&& (1 : Int32)) = (1 : Int32) → (vp_in x7 20 ∧ (vp_in x1 60 ∧ (MU M_M_found [.inr (25, 0), .inl (σ 38 x7.toNatClampNeg), .inl (σ 34 x1.toNatClampNeg)] σ (fun r s11 => ∃ r13, r = some (.inl r13) ∧ (((0 : Int32) ≤ r13 → ((¬ (s11 25 18) = (0 : Int32) → (J M_M_call Q 114 [some (.inr (25, 0)), some (.inl x1), u2, some (.inl x3), some (.inl x4), some (.inl x5), some (.inl x6), some (.inl x7), some (.inl r13), u9] [.inl ((1 : Int32) + x7)] s11)) ∧ ((s11 25 18) = (0 : Int32) → (J M_M_call Q 114 [some (.inr (25, 0)), some (.inl x1), u2, some (.inl x3), some (.inl x4), some (.inl x5), some (.inl x6), some (.inl x7), some (.inl r13), u9] [.inl (0 : Int32)] s11)))) ∧ (¬ (0 : Int32) ≤ r13 → (J M_M_call Q 49 [some (.inr (25, 0)), some (.inl x1), u2, some (.inl x3), some (.inl x4), some (.inl x5), some (.inl x6), some (.inl (x7 + 1)), some (.inl r13), u9] [] s11))))))))))) : J M_M_call Q 49 [some (.inr (25, 0)), some (.inl x1), u2, some (.inl x3), some (.inl x4), some (.inl x5), some (.inl x6), some (.inl x7), u8, u9] [] σ :=
  J_iload (i := 7) rfl d_M_call_49 <|
  J_aload_n (i := 0) rfl rfl d_M_call_51 <|
  gM_160 rfl d_M_call_52 <|
  J_icmp_ge (tgt := 215) d_M_call_55 (by decide) (fun c17 =>
  J_vret rfl d_M_call_215 (((h).1 c17))) (fun c17 =>
  J_iload_n (i := 3) rfl rfl d_M_call_58 <|
  J_iload (i := 7) rfl d_M_call_59 <|
  J_ishr d_M_call_61 <|
  J_iconst (v := (1 : Int32)) d_M_call_62 (by decide) <|
  J_iand d_M_call_63 <|
  J_iconst (v := (1 : Int32)) d_M_call_64 (by decide) <|
  J_icmp_ne (tgt := 88) d_M_call_65 (by decide) (fun c16 =>
  J_iconst (v := (-1 : Int32)) d_M_call_88 (by decide) <|
  J_istore (i := 8) (ls' := [some (.inr (25, 0)), some (.inl x1), u2, some (.inl x3), some (.inl x4), some (.inl x5), some (.inl x6), some (.inl x7), some (.inl (-1 : Int32)), u9]) rfl rfl rfl d_M_call_89 <|
  J_iload (i := 8) rfl d_M_call_91 <|
  J_if_ge (tgt := 99) d_M_call_93 (by decide) (fun c10 =>
  J_aload_n (i := 0) rfl rfl d_M_call_99 <|
  gM_163 rfl d_M_call_100 <|
  J_if_ne (tgt := 110) d_M_call_103 (by decide) (fun c9 =>
  J_iconst (v := (1 : Int32)) d_M_call_110 (by decide) <|
  J_iload (i := 7) rfl d_M_call_111 <|
  J_iadd d_M_call_113 <|
  ((((((((h).2 c17)).1 c16)).1 c10)).1 c9)) (fun c9 =>
  J_iconst (v := (0 : Int32)) d_M_call_106 (by decide) <|
  J_goto (tgt := 114) d_M_call_107 (by decide) <|
  ((((((((h).2 c17)).1 c16)).1 c10)).2 c9))) (fun c10 =>
  J_goto (tgt := 209) d_M_call_96 (by decide) <|
  J_iinc (i := 7) (v := (x7 + 1)) (ls' := [some (.inr (25, 0)), some (.inl x1), u2, some (.inl x3), some (.inl x4), some (.inl x5), some (.inl x6), some (.inl (x7 + 1)), some (.inl (-1 : Int32)), u9]) rfl rfl rfl rfl rfl d_M_call_209 <|
  J_goto (tgt := 49) d_M_call_212 (by decide) <|
  ((((((h).2 c17)).1 c16)).2 c10))) (fun c16 =>
  J_aload_n (i := 0) rfl rfl d_M_call_68 <|
  J_aload_n (i := 0) rfl rfl d_M_call_69 <|
  gM_46 rfl d_M_call_70 <|
  J_iload (i := 7) rfl d_M_call_73 <|
  J_iald (((((h).2 c17)).2 c16)).1 d_M_call_75 <|
  J_aload_n (i := 0) rfl rfl d_M_call_76 <|
  gM_34 rfl d_M_call_77 <|
  J_iload_n (i := 1) rfl rfl d_M_call_80 <|
  J_iald ((((((h).2 c17)).2 c16)).2).1 d_M_call_81 <|
  kM_180_i rfl rfl rfl (args := [.inl (σ 38 x7.toNatClampNeg), .inl (σ 34 x1.toNatClampNeg)]) (((((((h).2 c17)).2 c16)).2).2) d_M_call_82 (fun r13 s11 h12 =>
  J_goto (tgt := 89) d_M_call_85 (by decide) <|
  J_istore (i := 8) (ls' := [some (.inr (25, 0)), some (.inl x1), u2, some (.inl x3), some (.inl x4), some (.inl x5), some (.inl x6), some (.inl x7), some (.inl r13), u9]) rfl rfl rfl d_M_call_89 <|
  J_iload (i := 8) rfl d_M_call_91 <|
  J_if_ge (tgt := 99) d_M_call_93 (by decide) (fun c15 =>
  J_aload_n (i := 0) rfl rfl d_M_call_99 <|
  gM_163 rfl d_M_call_100 <|
  J_if_ne (tgt := 110) d_M_call_103 (by decide) (fun c14 =>
  J_iconst (v := (1 : Int32)) d_M_call_110 (by decide) <|
  J_iload (i := 7) rfl d_M_call_111 <|
  J_iadd d_M_call_113 <|
  ((((h12).1 c15)).1 c14)) (fun c14 =>
  J_iconst (v := (0 : Int32)) d_M_call_106 (by decide) <|
  J_goto (tgt := 114) d_M_call_107 (by decide) <|
  ((((h12).1 c15)).2 c14))) (fun c15 =>
  J_goto (tgt := 209) d_M_call_96 (by decide) <|
  J_iinc (i := 7) (v := (x7 + 1)) (ls' := [some (.inr (25, 0)), some (.inl x1), u2, some (.inl x3), some (.inl x4), some (.inl x5), some (.inl x6), some (.inl (x7 + 1)), some (.inl r13), u9]) rfl rfl rfl rfl rfl d_M_call_209 <|
  J_goto (tgt := 49) d_M_call_212 (by decide) <|
  ((h12).2 c15)))))
theorem r_M_call_114 {Q : Option mV → mS → Prop} {σ : mS} {x1 x3 x4 x5 x6 x7 x8 y0 : Int32} {u2 u9 : Option mV} (h : vp_in x8 10 ∧ (vp_in x8 10 ∧ (MU M_M_nameAt [.inl x8, .inl y0, .inl (0 : Int32)] (m_up σ 48 x8.toNatClampNeg ((σ 48 x8.toNatClampNeg) ||| ((1 : Int32) <<< (y0 &&& 31)))) (fun r s19 => ∃ r21, r = some (.inl r21) ∧ (vp_in r21 1260 ∧ (vp_in r21 1260 ∧ (MU M_M_nameAt [.inl x8, .inl y0, .inl (1 : Int32)] (m_up s19 40 r21.toNatClampNeg ((s19 40 r21.toNatClampNeg) ||| ((1 : Int32) <<< (x7 &&& 31)))) (fun r s23 => ∃ r25, r = some (.inl r25) ∧ (vp_in r25 1260 ∧ (vp_in r25 1260 ∧ (MU M_M_nameAt [.inl x8, .inl y0, .inl (nI 2)] (m_up s23 40 r25.toNatClampNeg ((s23 40 r25.toNatClampNeg) ||| x5)) (fun r s27 => ∃ r29, r = some (.inl r29) ∧ (vp_in r29 1260 ∧ (vp_in r29 1260 ∧ (∀ t30, t30 = (m_up s27 40 r29.toNatClampNeg ((s27 40 r29.toNatClampNeg) ||| x6)) → (vp_in x4 1260 ∧ (MU M_M_nameAt [.inl x8, .inl y0, .inl (nI 5)] t30 (fun r s31 => ∃ r33, r = some (.inl r33) ∧ (vp_in r33 1260 ∧ (vp_in x4 1260 ∧ (J M_M_call Q 49 [some (.inr (25, 0)), some (.inl x1), u2, some (.inl x3), some (.inl x4), some (.inl x5), some (.inl x6), some (.inl (x7 + 1)), some (.inl x8), some (.inl y0)] [] (m_up s31 40 x4.toNatClampNeg ((t30 40 x4.toNatClampNeg) ||| (s31 39 r33.toNatClampNeg)))))))))))))))))))))))) : J M_M_call Q 114 [some (.inr (25, 0)), some (.inl x1), u2, some (.inl x3), some (.inl x4), some (.inl x5), some (.inl x6), some (.inl x7), some (.inl x8), u9] [.inl y0] σ :=
  J_istore (i := 9) (ls' := [some (.inr (25, 0)), some (.inl x1), u2, some (.inl x3), some (.inl x4), some (.inl x5), some (.inl x6), some (.inl x7), some (.inl x8), some (.inl y0)]) rfl rfl rfl d_M_call_114 <|
  J_aload_n (i := 0) rfl rfl d_M_call_116 <|
  gM_76 rfl d_M_call_117 <|
  J_iload (i := 8) rfl d_M_call_120 <|
  J_dup2 d_M_call_122 <|
  J_iald (h).1 d_M_call_123 <|
  J_iconst (v := (1 : Int32)) d_M_call_124 (by decide) <|
  J_iload (i := 9) rfl d_M_call_125 <|
  J_ishl d_M_call_127 <|
  J_ior d_M_call_128 <|
  J_iast ((h).2).1 d_M_call_129 <|
  J_aload_n (i := 0) rfl rfl d_M_call_130 <|
  gM_52 rfl d_M_call_131 <|
  J_iload (i := 8) rfl d_M_call_134 <|
  J_iload (i := 9) rfl d_M_call_136 <|
  J_iconst (v := (0 : Int32)) d_M_call_138 (by decide) <|
  kM_166_i rfl rfl rfl (args := [.inl x8, .inl y0, .inl (0 : Int32)]) (((h).2).2) d_M_call_139 (fun r21 s19 h20 =>
  J_dup2 d_M_call_142 <|
  J_iald (h20).1 d_M_call_143 <|
  J_iconst (v := (1 : Int32)) d_M_call_144 (by decide) <|
  J_iload (i := 7) rfl d_M_call_145 <|
  J_ishl d_M_call_147 <|
  J_ior d_M_call_148 <|
  J_iast ((h20).2).1 d_M_call_149 <|
  J_aload_n (i := 0) rfl rfl d_M_call_150 <|
  gM_52 rfl d_M_call_151 <|
  J_iload (i := 8) rfl d_M_call_154 <|
  J_iload (i := 9) rfl d_M_call_156 <|
  J_iconst (v := (1 : Int32)) d_M_call_158 (by decide) <|
  kM_166_i rfl rfl rfl (args := [.inl x8, .inl y0, .inl (1 : Int32)]) (((h20).2).2) d_M_call_159 (fun r25 s23 h24 =>
  J_dup2 d_M_call_162 <|
  J_iald (h24).1 d_M_call_163 <|
  J_iload (i := 5) rfl d_M_call_164 <|
  J_ior d_M_call_166 <|
  J_iast ((h24).2).1 d_M_call_167 <|
  J_aload_n (i := 0) rfl rfl d_M_call_168 <|
  gM_52 rfl d_M_call_169 <|
  J_iload (i := 8) rfl d_M_call_172 <|
  J_iload (i := 9) rfl d_M_call_174 <|
  J_iconst (v := (nI 2)) d_M_call_176 (by decide) <|
  kM_166_i rfl rfl rfl (args := [.inl x8, .inl y0, .inl (nI 2)]) (((h24).2).2) d_M_call_177 (fun r29 s27 h28 =>
  J_dup2 d_M_call_180 <|
  J_iald (h28).1 d_M_call_181 <|
  J_iload (i := 6) rfl d_M_call_182 <|
  J_ior d_M_call_184 <|
  J_iast ((h28).2).1 d_M_call_185 <|
  J_names (fun t30 et30 =>
  J_aload_n (i := 0) rfl rfl d_M_call_186 <|
  gM_52 rfl d_M_call_187 <|
  J_iload (i := 4) rfl d_M_call_190 <|
  J_dup2 d_M_call_192 <|
  J_iald (((((h28).2).2) t30 et30)).1 d_M_call_193 <|
  J_aload_n (i := 0) rfl rfl d_M_call_194 <|
  gM_49 rfl d_M_call_195 <|
  J_iload (i := 8) rfl d_M_call_198 <|
  J_iload (i := 9) rfl d_M_call_200 <|
  J_iconst (v := (nI 5)) d_M_call_202 (by decide) <|
  kM_166_i rfl rfl rfl (args := [.inl x8, .inl y0, .inl (nI 5)]) ((((((h28).2).2) t30 et30)).2) d_M_call_203 (fun r33 s31 h32 =>
  J_iald (h32).1 d_M_call_206 <|
  J_ior d_M_call_207 <|
  J_iast ((h32).2).1 d_M_call_208 <|
  J_iinc (i := 7) (v := (x7 + 1)) (ls' := [some (.inr (25, 0)), some (.inl x1), u2, some (.inl x3), some (.inl x4), some (.inl x5), some (.inl x6), some (.inl (x7 + 1)), some (.inl x8), some (.inl y0)]) rfl rfl rfl rfl rfl d_M_call_209 <|
  J_goto (tgt := 49) d_M_call_212 (by decide) <|
  ((h32).2).2)))))
theorem r_M_swap_0 {Q : Option mV → mS → Prop} {σ : mS} (h : J M_M_swap Q 2 [some (.inr (25, 0)), some (.inl (0 : Int32))] [] σ) : J M_M_swap Q 0 [some (.inr (25, 0)), none] [] σ :=
  J_iconst (v := (0 : Int32)) d_M_swap_0 (by decide) <|
  J_istore_n (i := 1) (ls' := [some (.inr (25, 0)), some (.inl (0 : Int32))]) rfl rfl rfl rfl d_M_swap_1 <|
  h
theorem r_M_swap_2 {Q : Option mV → mS → Prop} {σ : mS} {x1 : Int32} (h : ((nI 1260) ≤ x1 → (J M_M_swap Q 29 [some (.inr (25, 0)), some (.inl (0 : Int32))] [] σ)) ∧ (¬ (nI 1260) ≤ x1 → (vp_in x1 1260 ∧ (vp_in x1 1260 ∧ (J M_M_swap Q 2 [some (.inr (25, 0)), some (.inl (x1 + 1))] [] (m_up σ 39 x1.toNatClampNeg (σ 40 x1.toNatClampNeg))))))) : J M_M_swap Q 2 [some (.inr (25, 0)), some (.inl x1)] [] σ :=
  J_iload_n (i := 1) rfl rfl d_M_swap_2 <|
  J_sipush (v := (nI 1260)) d_M_swap_3 (by decide) <|
  J_icmp_ge (tgt := 27) d_M_swap_6 (by decide) (fun c2 =>
  J_iconst (v := (0 : Int32)) d_M_swap_27 (by decide) <|
  J_istore_n (i := 1) (ls' := [some (.inr (25, 0)), some (.inl (0 : Int32))]) rfl rfl rfl rfl d_M_swap_28 <|
  ((h).1 c2)) (fun c2 =>
  J_aload_n (i := 0) rfl rfl d_M_swap_9 <|
  gM_49 rfl d_M_swap_10 <|
  J_iload_n (i := 1) rfl rfl d_M_swap_13 <|
  J_aload_n (i := 0) rfl rfl d_M_swap_14 <|
  gM_52 rfl d_M_swap_15 <|
  J_iload_n (i := 1) rfl rfl d_M_swap_18 <|
  J_iald (((h).2 c2)).1 d_M_swap_19 <|
  J_iast ((((h).2 c2)).2).1 d_M_swap_20 <|
  J_iinc (i := 1) (v := (x1 + 1)) (ls' := [some (.inr (25, 0)), some (.inl (x1 + 1))]) rfl rfl rfl rfl rfl d_M_swap_21 <|
  J_goto (tgt := 2) d_M_swap_24 (by decide) <|
  ((((h).2 c2)).2).2)
theorem r_M_swap_29 {Q : Option mV → mS → Prop} {σ : mS} {x1 : Int32} (h : ((nI 160) ≤ x1 → (J M_M_swap Q 56 [some (.inr (25, 0)), some (.inl (0 : Int32))] [] σ)) ∧ (¬ (nI 160) ≤ x1 → (vp_in x1 160 ∧ (vp_in x1 160 ∧ (J M_M_swap Q 29 [some (.inr (25, 0)), some (.inl (x1 + 1))] [] (m_up σ 41 x1.toNatClampNeg (σ 42 x1.toNatClampNeg))))))) : J M_M_swap Q 29 [some (.inr (25, 0)), some (.inl x1)] [] σ :=
  J_iload_n (i := 1) rfl rfl d_M_swap_29 <|
  J_sipush (v := (nI 160)) d_M_swap_30 (by decide) <|
  J_icmp_ge (tgt := 54) d_M_swap_33 (by decide) (fun c4 =>
  J_iconst (v := (0 : Int32)) d_M_swap_54 (by decide) <|
  J_istore_n (i := 1) (ls' := [some (.inr (25, 0)), some (.inl (0 : Int32))]) rfl rfl rfl rfl d_M_swap_55 <|
  ((h).1 c4)) (fun c4 =>
  J_aload_n (i := 0) rfl rfl d_M_swap_36 <|
  gM_55 rfl d_M_swap_37 <|
  J_iload_n (i := 1) rfl rfl d_M_swap_40 <|
  J_aload_n (i := 0) rfl rfl d_M_swap_41 <|
  gM_58 rfl d_M_swap_42 <|
  J_iload_n (i := 1) rfl rfl d_M_swap_45 <|
  J_iald (((h).2 c4)).1 d_M_swap_46 <|
  J_iast ((((h).2 c4)).2).1 d_M_swap_47 <|
  J_iinc (i := 1) (v := (x1 + 1)) (ls' := [some (.inr (25, 0)), some (.inl (x1 + 1))]) rfl rfl rfl rfl rfl d_M_swap_48 <|
  J_goto (tgt := 29) d_M_swap_51 (by decide) <|
  ((((h).2 c4)).2).2)
theorem r_M_swap_56 {Q : Option mV → mS → Prop} {σ : mS} {x1 : Int32} (h : ((nI 20) ≤ x1 → (J M_M_swap Q 82 [some (.inr (25, 0)), some (.inl (0 : Int32))] [] σ)) ∧ (¬ (nI 20) ≤ x1 → (vp_in x1 20 ∧ (vp_in x1 20 ∧ (J M_M_swap Q 56 [some (.inr (25, 0)), some (.inl (x1 + 1))] [] (m_up σ 43 x1.toNatClampNeg (σ 44 x1.toNatClampNeg))))))) : J M_M_swap Q 56 [some (.inr (25, 0)), some (.inl x1)] [] σ :=
  J_iload_n (i := 1) rfl rfl d_M_swap_56 <|
  J_bipush (v := (nI 20)) d_M_swap_57 (by decide) <|
  J_icmp_ge (tgt := 80) d_M_swap_59 (by decide) (fun c6 =>
  J_iconst (v := (0 : Int32)) d_M_swap_80 (by decide) <|
  J_istore_n (i := 1) (ls' := [some (.inr (25, 0)), some (.inl (0 : Int32))]) rfl rfl rfl rfl d_M_swap_81 <|
  ((h).1 c6)) (fun c6 =>
  J_aload_n (i := 0) rfl rfl d_M_swap_62 <|
  gM_61 rfl d_M_swap_63 <|
  J_iload_n (i := 1) rfl rfl d_M_swap_66 <|
  J_aload_n (i := 0) rfl rfl d_M_swap_67 <|
  gM_64 rfl d_M_swap_68 <|
  J_iload_n (i := 1) rfl rfl d_M_swap_71 <|
  J_iald (((h).2 c6)).1 d_M_swap_72 <|
  J_iast ((((h).2 c6)).2).1 d_M_swap_73 <|
  J_iinc (i := 1) (v := (x1 + 1)) (ls' := [some (.inr (25, 0)), some (.inl (x1 + 1))]) rfl rfl rfl rfl rfl d_M_swap_74 <|
  J_goto (tgt := 56) d_M_swap_77 (by decide) <|
  ((((h).2 c6)).2).2)
theorem r_M_swap_82 {Q : Option mV → mS → Prop} {σ : mS} {x1 : Int32} (h : ((nI 4) ≤ x1 → (J M_M_swap Q 107 [some (.inr (25, 0)), some (.inl (0 : Int32))] [] σ)) ∧ (¬ (nI 4) ≤ x1 → (vp_in x1 4 ∧ (vp_in x1 4 ∧ (J M_M_swap Q 82 [some (.inr (25, 0)), some (.inl (x1 + 1))] [] (m_up σ 45 x1.toNatClampNeg (σ 46 x1.toNatClampNeg))))))) : J M_M_swap Q 82 [some (.inr (25, 0)), some (.inl x1)] [] σ :=
  J_iload_n (i := 1) rfl rfl d_M_swap_82 <|
  J_iconst (v := (nI 4)) d_M_swap_83 (by decide) <|
  J_icmp_ge (tgt := 105) d_M_swap_84 (by decide) (fun c8 =>
  J_iconst (v := (0 : Int32)) d_M_swap_105 (by decide) <|
  J_istore_n (i := 1) (ls' := [some (.inr (25, 0)), some (.inl (0 : Int32))]) rfl rfl rfl rfl d_M_swap_106 <|
  ((h).1 c8)) (fun c8 =>
  J_aload_n (i := 0) rfl rfl d_M_swap_87 <|
  gM_67 rfl d_M_swap_88 <|
  J_iload_n (i := 1) rfl rfl d_M_swap_91 <|
  J_aload_n (i := 0) rfl rfl d_M_swap_92 <|
  gM_70 rfl d_M_swap_93 <|
  J_iload_n (i := 1) rfl rfl d_M_swap_96 <|
  J_iald (((h).2 c8)).1 d_M_swap_97 <|
  J_iast ((((h).2 c8)).2).1 d_M_swap_98 <|
  J_iinc (i := 1) (v := (x1 + 1)) (ls' := [some (.inr (25, 0)), some (.inl (x1 + 1))]) rfl rfl rfl rfl rfl d_M_swap_99 <|
  J_goto (tgt := 82) d_M_swap_102 (by decide) <|
  ((((h).2 c8)).2).2)
theorem r_M_swap_107 {Q : Option mV → mS → Prop} {σ : mS} {x1 : Int32} (h : ((nI 10) ≤ x1 → (Q none σ)) ∧ (¬ (nI 10) ≤ x1 → (vp_in x1 10 ∧ (vp_in x1 10 ∧ (J M_M_swap Q 107 [some (.inr (25, 0)), some (.inl (x1 + 1))] [] (m_up σ 47 x1.toNatClampNeg (σ 48 x1.toNatClampNeg))))))) : J M_M_swap Q 107 [some (.inr (25, 0)), some (.inl x1)] [] σ :=
  J_iload_n (i := 1) rfl rfl d_M_swap_107 <|
  J_bipush (v := (nI 10)) d_M_swap_108 (by decide) <|
  J_icmp_ge (tgt := 131) d_M_swap_110 (by decide) (fun c10 =>
  J_vret rfl d_M_swap_131 (((h).1 c10))) (fun c10 =>
  J_aload_n (i := 0) rfl rfl d_M_swap_113 <|
  gM_73 rfl d_M_swap_114 <|
  J_iload_n (i := 1) rfl rfl d_M_swap_117 <|
  J_aload_n (i := 0) rfl rfl d_M_swap_118 <|
  gM_76 rfl d_M_swap_119 <|
  J_iload_n (i := 1) rfl rfl d_M_swap_122 <|
  J_iald (((h).2 c10)).1 d_M_swap_123 <|
  J_iast ((((h).2 c10)).2).1 d_M_swap_124 <|
  J_iinc (i := 1) (v := (x1 + 1)) (ls' := [some (.inr (25, 0)), some (.inl (x1 + 1))]) rfl rfl rfl rfl rfl d_M_swap_125 <|
  J_goto (tgt := 107) d_M_swap_128 (by decide) <|
  ((((h).2 c10)).2).2)
theorem r_M_allOf_0 {Q : Option mV → mS → Prop} {σ : mS} {x1 x2 : Int32} (h : J M_M_allOf Q 5 [some (.inr (25, 0)), some (.inl x1), some (.inl x2), some (.inl (0 : Int32)), some (.inl (0 : Int32))] [] σ) : J M_M_allOf Q 0 [some (.inr (25, 0)), some (.inl x1), some (.inl x2), none, none] [] σ :=
  J_iconst (v := (0 : Int32)) d_M_allOf_0 (by decide) <|
  J_istore_n (i := 3) (ls' := [some (.inr (25, 0)), some (.inl x1), some (.inl x2), some (.inl (0 : Int32)), none]) rfl rfl rfl rfl d_M_allOf_1 <|
  J_iconst (v := (0 : Int32)) d_M_allOf_2 (by decide) <|
  J_istore (i := 4) (ls' := [some (.inr (25, 0)), some (.inl x1), some (.inl x2), some (.inl (0 : Int32)), some (.inl (0 : Int32))]) rfl rfl rfl d_M_allOf_3 <|
  h
theorem r_M_allOf_5 {Q : Option mV → mS → Prop} {σ : mS} {x1 x2 x3 x4 : Int32} (h : ((nI 21) ≤ x4 → (Q (some (.inl x3)) σ)) ∧ (¬ (nI 21) ≤ x4 → (MU M_M_nameAt [.inl x1, .inl x4, .inl x2] σ (fun r s1 => ∃ r3, r = some (.inl r3) ∧ (vp_in r3 1260 ∧ (J M_M_allOf Q 5 [some (.inr (25, 0)), some (.inl x1), some (.inl x2), some (.inl (x3 ||| (s1 39 r3.toNatClampNeg))), some (.inl (x4 + 1))] [] s1)))))) : J M_M_allOf Q 5 [some (.inr (25, 0)), some (.inl x1), some (.inl x2), some (.inl x3), some (.inl x4)] [] σ :=
  J_iload (i := 4) rfl d_M_allOf_5 <|
  J_bipush (v := (nI 21)) d_M_allOf_7 (by decide) <|
  J_icmp_ge (tgt := 33) d_M_allOf_9 (by decide) (fun c5 =>
  J_iload_n (i := 3) rfl rfl d_M_allOf_33 <|
  J_iret rfl d_M_allOf_34 (((h).1 c5))) (fun c5 =>
  J_iload_n (i := 3) rfl rfl d_M_allOf_12 <|
  J_aload_n (i := 0) rfl rfl d_M_allOf_13 <|
  gM_49 rfl d_M_allOf_14 <|
  J_iload_n (i := 1) rfl rfl d_M_allOf_17 <|
  J_iload (i := 4) rfl d_M_allOf_18 <|
  J_iload_n (i := 2) rfl rfl d_M_allOf_20 <|
  kM_166_i rfl rfl rfl (args := [.inl x1, .inl x4, .inl x2]) (((h).2 c5)) d_M_allOf_21 (fun r3 s1 h2 =>
  J_iald (h2).1 d_M_allOf_24 <|
  J_ior d_M_allOf_25 <|
  J_istore_n (i := 3) (ls' := [some (.inr (25, 0)), some (.inl x1), some (.inl x2), some (.inl (x3 ||| (s1 39 r3.toNatClampNeg))), some (.inl x4)]) rfl rfl rfl rfl d_M_allOf_26 <|
  J_iinc (i := 4) (v := (x4 + 1)) (ls' := [some (.inr (25, 0)), some (.inl x1), some (.inl x2), some (.inl (x3 ||| (s1 39 r3.toNatClampNeg))), some (.inl (x4 + 1))]) rfl rfl rfl rfl rfl d_M_allOf_27 <|
  J_goto (tgt := 5) d_M_allOf_30 (by decide) <|
  (h2).2))
theorem r_M_note_0 {Q : Option mV → mS → Prop} {σ : mS} {x1 : Int32} (h : J M_M_note Q 2 [some (.inr (25, 0)), some (.inl x1), some (.inl (0 : Int32)), none, none, none, none] [] σ) : J M_M_note Q 0 [some (.inr (25, 0)), some (.inl x1), none, none, none, none, none] [] σ :=
  J_iconst (v := (0 : Int32)) d_M_note_0 (by decide) <|
  J_istore_n (i := 2) (ls' := [some (.inr (25, 0)), some (.inl x1), some (.inl (0 : Int32)), none, none, none, none]) rfl rfl rfl rfl d_M_note_1 <|
  h
theorem r_M_note_2 {Q : Option mV → mS → Prop} {σ : mS} {x1 x2 : Int32} {u3 u4 u5 u6 : Option mV} (h : ((σ 25 4) ≤ x2 → (Q none σ)) ∧ (¬ (σ 25 4) ≤ x2 → (J M_M_note Q 12 [some (.inr (25, 0)), some (.inl x1), some (.inl x2), some (.inl (0 : Int32)), u4, u5, u6] [] σ))) : J M_M_note Q 2 [some (.inr (25, 0)), some (.inl x1), some (.inl x2), u3, u4, u5, u6] [] σ :=
  J_iload_n (i := 2) rfl rfl d_M_note_2 <|
  J_aload_n (i := 0) rfl rfl d_M_note_3 <|
  gM_116 rfl d_M_note_4 <|
  J_icmp_ge (tgt := 99) d_M_note_7 (by decide) (fun c1 =>
  J_vret rfl d_M_note_99 (((h).1 c1))) (fun c1 =>
  J_iconst (v := (0 : Int32)) d_M_note_10 (by decide) <|
  J_istore_n (i := 3) (ls' := [some (.inr (25, 0)), some (.inl x1), some (.inl x2), some (.inl (0 : Int32)), u4, u5, u6]) rfl rfl rfl rfl d_M_note_11 <|
  ((h).2 c1))
theorem r_M_note_12 {Q : Option mV → mS → Prop} {σ : mS} {x1 x2 x3 : Int32} {u4 u5 u6 : Option mV} (h : ((nI 6) ≤ x3 → (J M_M_note Q 2 [some (.inr (25, 0)), some (.inl x1), some (.inl (x2 + 1)), some (.inl x3), u4, u5, u6] [] σ)) ∧ (¬ (nI 6) ≤ x3 → (MU M_M_allOf [.inr (25, 0), .inl x2, .inl x3] σ (fun r s2 => ∃ r4, r = some (.inl r4) ∧ (J M_M_note Q 29 [some (.inr (25, 0)), some (.inl x1), some (.inl x2), some (.inl x3), some (.inl r4), some (.inl (0 : Int32)), u6] [] s2))))) : J M_M_note Q 12 [some (.inr (25, 0)), some (.inl x1), some (.inl x2), some (.inl x3), u4, u5, u6] [] σ :=
  J_iload_n (i := 3) rfl rfl d_M_note_12 <|
  J_bipush (v := (nI 6)) d_M_note_13 (by decide) <|
  J_icmp_ge (tgt := 93) d_M_note_15 (by decide) (fun c5 =>
  J_iinc (i := 2) (v := (x2 + 1)) (ls' := [some (.inr (25, 0)), some (.inl x1), some (.inl (x2 + 1)), some (.inl x3), u4, u5, u6]) rfl rfl rfl rfl rfl d_M_note_93 <|
  J_goto (tgt := 2) d_M_note_96 (by decide) <|
  ((h).1 c5)) (fun c5 =>
  J_aload_n (i := 0) rfl rfl d_M_note_18 <|
  J_iload_n (i := 2) rfl rfl d_M_note_19 <|
  J_iload_n (i := 3) rfl rfl d_M_note_20 <|
  kM_183_i rfl rfl rfl (args := [.inl x2, .inl x3]) (((h).2 c5)) d_M_note_21 (fun r4 s2 h3 =>
  J_istore (i := 4) (ls' := [some (.inr (25, 0)), some (.inl x1), some (.inl x2), some (.inl x3), some (.inl r4), u5, u6]) rfl rfl rfl d_M_note_24 <|
  J_iconst (v := (0 : Int32)) d_M_note_26 (by decide) <|
  J_istore (i := 5) (ls' := [some (.inr (25, 0)), some (.inl x1), some (.inl x2), some (.inl x3), some (.inl r4), some (.inl (0 : Int32)), u6]) rfl rfl rfl d_M_note_27 <|
  h3))
theorem r_M_note_29 {Q : Option mV → mS → Prop} {σ : mS} {x1 x2 x3 x4 x5 : Int32} {u6 : Option mV} (h : ((σ 25 16) ≤ x5 → (J M_M_note Q 12 [some (.inr (25, 0)), some (.inl x1), some (.inl x2), some (.inl (x3 + 1)), some (.inl x4), some (.inl x5), u6] [] σ)) ∧ (¬ (σ 25 16) ≤ x5 → (∀ v6, v6 = ((((nI 120) * x2) + ((nI 20) * x3)) + x5) → ((¬ ((x4 >>> (x5 &&& 31)) &&& (1 : Int32)) = (1 : Int32) → (J M_M_note Q 29 [some (.inr (25, 0)), some (.inl x1), some (.inl x2), some (.inl x3), some (.inl x4), some (.inl (x5 + 1)), some (.inl v6)] [] σ)) ∧ (((x4 >>> (x5 &&& 31)) &&& (1 : Int32)) = (1 : Int32) → (vp_in v6 1200 ∧ (((0 : Int32) ≤ (σ 49 v6.toNatClampNeg) → (J M_M_note Q 29 [some (.inr (25, 0)), some (.inl x1), some (.inl x2), some (.inl x3), some (.inl x4), some (.inl (x5 + 1)), some (.inl v6)] [] σ)) ∧ (¬ (0 : Int32) ≤ (σ 49 v6.toNatClampNeg) → (vp_in v6 1200 ∧ (J M_M_note Q 29 [some (.inr (25, 0)), some (.inl x1), some (.inl x2), some (.inl x3), some (.inl x4), some (.inl (x5 + 1)), some (.inl v6)] [] (m_up σ 49 v6.toNatClampNeg x1))))))))))) : J M_M_note Q 29 [some (.inr (25, 0)), some (.inl x1), some (.inl x2), some (.inl x3), some (.inl x4), some (.inl x5), u6] [] σ :=
  J_iload (i := 5) rfl d_M_note_29 <|
  J_aload_n (i := 0) rfl rfl d_M_note_31 <|
  gM_160 rfl d_M_note_32 <|
  J_icmp_ge (tgt := 87) d_M_note_35 (by decide) (fun c10 =>
  J_iinc (i := 3) (v := (x3 + 1)) (ls' := [some (.inr (25, 0)), some (.inl x1), some (.inl x2), some (.inl (x3 + 1)), some (.inl x4), some (.inl x5), u6]) rfl rfl rfl rfl rfl d_M_note_87 <|
  J_goto (tgt := 12) d_M_note_90 (by decide) <|
  ((h).1 c10)) (fun c10 =>
  J_bipush (v := (nI 120)) d_M_note_38 (by decide) <|
  J_iload_n (i := 2) rfl rfl d_M_note_40 <|
  J_imul d_M_note_41 <|
  J_bipush (v := (nI 20)) d_M_note_42 (by decide) <|
  J_iload_n (i := 3) rfl rfl d_M_note_44 <|
  J_imul d_M_note_45 <|
  J_iadd d_M_note_46 <|
  J_iload (i := 5) rfl d_M_note_47 <|
  J_iadd d_M_note_49 <|
  J_namei (fun v6 ev6 =>
  J_istore (i := 6) (ls' := [some (.inr (25, 0)), some (.inl x1), some (.inl x2), some (.inl x3), some (.inl x4), some (.inl x5), some (.inl v6)]) rfl rfl rfl d_M_note_50 <|
  J_iload (i := 4) rfl d_M_note_52 <|
  J_iload (i := 5) rfl d_M_note_54 <|
  J_ishr d_M_note_56 <|
  J_iconst (v := (1 : Int32)) d_M_note_57 (by decide) <|
  J_iand d_M_note_58 <|
  J_iconst (v := (1 : Int32)) d_M_note_59 (by decide) <|
  J_icmp_ne (tgt := 81) d_M_note_60 (by decide) (fun c9 =>
  J_iinc (i := 5) (v := (x5 + 1)) (ls' := [some (.inr (25, 0)), some (.inl x1), some (.inl x2), some (.inl x3), some (.inl x4), some (.inl (x5 + 1)), some (.inl v6)]) rfl rfl rfl rfl rfl d_M_note_81 <|
  J_goto (tgt := 29) d_M_note_84 (by decide) <|
  ((((((h).2 c10)) v6 ev6)).1 c9)) (fun c9 =>
  J_aload_n (i := 0) rfl rfl d_M_note_63 <|
  gM_79 rfl d_M_note_64 <|
  J_iload (i := 6) rfl d_M_note_67 <|
  J_iald (((((((h).2 c10)) v6 ev6)).2 c9)).1 d_M_note_69 <|
  J_if_ge (tgt := 81) d_M_note_70 (by decide) (fun c8 =>
  J_iinc (i := 5) (v := (x5 + 1)) (ls' := [some (.inr (25, 0)), some (.inl x1), some (.inl x2), some (.inl x3), some (.inl x4), some (.inl (x5 + 1)), some (.inl v6)]) rfl rfl rfl rfl rfl d_M_note_81 <|
  J_goto (tgt := 29) d_M_note_84 (by decide) <|
  (((((((((h).2 c10)) v6 ev6)).2 c9)).2).1 c8)) (fun c8 =>
  J_aload_n (i := 0) rfl rfl d_M_note_73 <|
  gM_79 rfl d_M_note_74 <|
  J_iload (i := 6) rfl d_M_note_77 <|
  J_iload_n (i := 1) rfl rfl d_M_note_79 <|
  J_iast ((((((((((h).2 c10)) v6 ev6)).2 c9)).2).2 c8)).1 d_M_note_80 <|
  J_iinc (i := 5) (v := (x5 + 1)) (ls' := [some (.inr (25, 0)), some (.inl x1), some (.inl x2), some (.inl x3), some (.inl x4), some (.inl (x5 + 1)), some (.inl v6)]) rfl rfl rfl rfl rfl d_M_note_81 <|
  J_goto (tgt := 29) d_M_note_84 (by decide) <|
  ((((((((((h).2 c10)) v6 ev6)).2 c9)).2).2 c8)).2))))
theorem r_M_know_0 {Q : Option mV → mS → Prop} {σ : mS} (h : ((σ 25 19) = (0 : Int32) → (MU M_M_empty [.inr (25, 0)] (m_up σ 25 19 (1 : Int32)) (fun r s2 => r = none ∧ (J M_M_know Q 24 [some (.inr (25, 0)), some (.inl (1 : Int32)), none, none] [] (m_up s2 25 31 (0 : Int32)))))) ∧ (¬ (σ 25 19) = (0 : Int32) → (Q none σ))) : J M_M_know Q 0 [some (.inr (25, 0)), none, none, none] [] σ :=
  J_aload_n (i := 0) rfl rfl d_M_know_0 <|
  gM_127 rfl d_M_know_1 <|
  J_if_eq (tgt := 8) d_M_know_4 (by decide) (fun c5 =>
  J_aload_n (i := 0) rfl rfl d_M_know_8 <|
  J_iconst (v := (1 : Int32)) d_M_know_9 (by decide) <|
  pM_127 rfl (Or.inr rfl) d_M_know_10 <|
  J_aload_n (i := 0) rfl rfl d_M_know_13 <|
  kM_186_v rfl rfl rfl (args := []) (((h).1 c5)) d_M_know_14 (fun s2 h3 =>
  J_aload_n (i := 0) rfl rfl d_M_know_17 <|
  J_iconst (v := (0 : Int32)) d_M_know_18 (by decide) <|
  pM_189 rfl d_M_know_19 <|
  J_iconst (v := (1 : Int32)) d_M_know_22 (by decide) <|
  J_istore_n (i := 1) (ls' := [some (.inr (25, 0)), some (.inl (1 : Int32)), none, none]) rfl rfl rfl rfl d_M_know_23 <|
  h3)) (fun c5 =>
  J_vret rfl d_M_know_7 (((h).2 c5)))
theorem r_M_know_24 {Q : Option mV → mS → Prop} {σ : mS} {x1 : Int32} {u2 u3 : Option mV} (h : (x1 = (0 : Int32) → (Q none σ)) ∧ (¬ x1 = (0 : Int32) → (MU M_M_copy [.inr (25, 0)] σ (fun r s6 => r = none ∧ (J M_M_know Q 34 [some (.inr (25, 0)), some (.inl x1), some (.inl (0 : Int32)), u3] [] s6))))) : J M_M_know Q 24 [some (.inr (25, 0)), some (.inl x1), u2, u3] [] σ :=
  J_iload_n (i := 1) rfl rfl d_M_know_24 <|
  J_if_eq (tgt := 129) d_M_know_25 (by decide) (fun c8 =>
  J_vret rfl d_M_know_129 (((h).1 c8))) (fun c8 =>
  J_aload_n (i := 0) rfl rfl d_M_know_28 <|
  kM_192_v rfl rfl rfl (args := []) (((h).2 c8)) d_M_know_29 (fun s6 h7 =>
  J_iconst (v := (0 : Int32)) d_M_know_32 (by decide) <|
  J_istore_n (i := 2) (ls' := [some (.inr (25, 0)), some (.inl x1), some (.inl (0 : Int32)), u3]) rfl rfl rfl rfl d_M_know_33 <|
  h7))
theorem r_M_know_34 {Q : Option mV → mS → Prop} {σ : mS} {x2 : Int32} {u1 u3 : Option mV} (h : ((σ 25 7) ≤ x2 → (MU M_M_isSame [.inr (25, 0)] σ (fun r s9 => ∃ r11, r = some (.inl r11) ∧ ((¬ r11 = (0 : Int32) → (J M_M_know Q 99 [some (.inr (25, 0)), u1, some (.inl x2), u3] [.inl (0 : Int32)] s9)) ∧ (r11 = (0 : Int32) → (J M_M_know Q 99 [some (.inr (25, 0)), u1, some (.inl x2), u3] [.inl (1 : Int32)] s9)))))) ∧ (¬ (σ 25 7) ≤ x2 → (J M_M_know Q 44 [some (.inr (25, 0)), u1, some (.inl x2), some (.inl (0 : Int32))] [] σ))) : J M_M_know Q 34 [some (.inr (25, 0)), u1, some (.inl x2), u3] [] σ :=
  J_iload_n (i := 2) rfl rfl d_M_know_34 <|
  J_aload_n (i := 0) rfl rfl d_M_know_35 <|
  gM_157 rfl d_M_know_36 <|
  J_icmp_ge (tgt := 87) d_M_know_39 (by decide) (fun c13 =>
  J_aload_n (i := 0) rfl rfl d_M_know_87 <|
  kM_199_i rfl rfl rfl (args := []) (((h).1 c13)) d_M_know_88 (fun r11 s9 h10 =>
  J_if_ne (tgt := 98) d_M_know_91 (by decide) (fun c12 =>
  J_iconst (v := (0 : Int32)) d_M_know_98 (by decide) <|
  ((h10).1 c12)) (fun c12 =>
  J_iconst (v := (1 : Int32)) d_M_know_94 (by decide) <|
  J_goto (tgt := 99) d_M_know_95 (by decide) <|
  ((h10).2 c12)))) (fun c13 =>
  J_iconst (v := (0 : Int32)) d_M_know_42 (by decide) <|
  J_istore_n (i := 3) (ls' := [some (.inr (25, 0)), u1, some (.inl x2), some (.inl (0 : Int32))]) rfl rfl rfl rfl d_M_know_43 <|
  ((h).2 c13))
theorem r_M_know_44 {Q : Option mV → mS → Prop} {σ : mS} {x2 x3 : Int32} {u1 : Option mV} (h : ((nI 21) ≤ x3 → (J M_M_know Q 34 [some (.inr (25, 0)), u1, some (.inl (x2 + 1)), some (.inl x3)] [] σ)) ∧ (¬ (nI 21) ≤ x3 → (vp_in x2 60 ∧ (vp_in (σ 30 x2.toNatClampNeg) 10 ∧ ((¬ (((σ 47 (σ 30 x2.toNatClampNeg).toNatClampNeg) >>> (x3 &&& 31)) &&& (1 : Int32)) = (1 : Int32) → (J M_M_know Q 44 [some (.inr (25, 0)), u1, some (.inl x2), some (.inl (x3 + 1))] [] σ)) ∧ ((((σ 47 (σ 30 x2.toNatClampNeg).toNatClampNeg) >>> (x3 &&& 31)) &&& (1 : Int32)) = (1 : Int32) → (MU M_M_bring [.inr (25, 0), .inl x2, .inl x3] σ (fun r s14 => r = none ∧ (J M_M_know Q 44 [some (.inr (25, 0)), u1, some (.inl x2), some (.inl (x3 + 1))] [] s14))))))))) : J M_M_know Q 44 [some (.inr (25, 0)), u1, some (.inl x2), some (.inl x3)] [] σ :=
  J_iload_n (i := 3) rfl rfl d_M_know_44 <|
  J_bipush (v := (nI 21)) d_M_know_45 (by decide) <|
  J_icmp_ge (tgt := 81) d_M_know_47 (by decide) (fun c17 =>
  J_iinc (i := 2) (v := (x2 + 1)) (ls' := [some (.inr (25, 0)), u1, some (.inl (x2 + 1)), some (.inl x3)]) rfl rfl rfl rfl rfl d_M_know_81 <|
  J_goto (tgt := 34) d_M_know_84 (by decide) <|
  ((h).1 c17)) (fun c17 =>
  J_aload_n (i := 0) rfl rfl d_M_know_50 <|
  gM_73 rfl d_M_know_51 <|
  J_aload_n (i := 0) rfl rfl d_M_know_54 <|
  gM_22 rfl d_M_know_55 <|
  J_iload_n (i := 2) rfl rfl d_M_know_58 <|
  J_iald (((h).2 c17)).1 d_M_know_59 <|
  J_iald ((((h).2 c17)).2).1 d_M_know_60 <|
  J_iload_n (i := 3) rfl rfl d_M_know_61 <|
  J_ishr d_M_know_62 <|
  J_iconst (v := (1 : Int32)) d_M_know_63 (by decide) <|
  J_iand d_M_know_64 <|
  J_iconst (v := (1 : Int32)) d_M_know_65 (by decide) <|
  J_icmp_ne (tgt := 75) d_M_know_66 (by decide) (fun c16 =>
  J_iinc (i := 3) (v := (x3 + 1)) (ls' := [some (.inr (25, 0)), u1, some (.inl x2), some (.inl (x3 + 1))]) rfl rfl rfl rfl rfl d_M_know_75 <|
  J_goto (tgt := 44) d_M_know_78 (by decide) <|
  ((((((h).2 c17)).2).2).1 c16)) (fun c16 =>
  J_aload_n (i := 0) rfl rfl d_M_know_69 <|
  J_iload_n (i := 2) rfl rfl d_M_know_70 <|
  J_iload_n (i := 3) rfl rfl d_M_know_71 <|
  kM_195_v rfl rfl rfl (args := [.inl x2, .inl x3]) (((((((h).2 c17)).2).2).2 c16)) d_M_know_72 (fun s14 h15 =>
  J_iinc (i := 3) (v := (x3 + 1)) (ls' := [some (.inr (25, 0)), u1, some (.inl x2), some (.inl (x3 + 1))]) rfl rfl rfl rfl rfl d_M_know_75 <|
  J_goto (tgt := 44) d_M_know_78 (by decide) <|
  h15)))
theorem r_M_know_99 {Q : Option mV → mS → Prop} {σ : mS} {y0 : Int32} {u1 u2 u3 : Option mV} (h : (y0 = (0 : Int32) → (J M_M_know Q 24 [some (.inr (25, 0)), some (.inl y0), u2, u3] [] σ)) ∧ (¬ y0 = (0 : Int32) → (MU M_M_swap [.inr (25, 0)] σ (fun r s18 => r = none ∧ (∀ t20, t20 = (m_up s18 25 31 ((s18 25 31) + (1 : Int32))) → (MU M_M_note [.inr (25, 0), .inl (t20 25 31)] t20 (fun r s21 => r = none ∧ (J M_M_know Q 24 [some (.inr (25, 0)), some (.inl y0), u2, u3] [] s21)))))))) : J M_M_know Q 99 [some (.inr (25, 0)), u1, u2, u3] [.inl y0] σ :=
  J_istore_n (i := 1) (ls' := [some (.inr (25, 0)), some (.inl y0), u2, u3]) rfl rfl rfl rfl d_M_know_99 <|
  J_iload_n (i := 1) rfl rfl d_M_know_100 <|
  J_if_eq (tgt := 24) d_M_know_101 (by decide) (fun c23 =>
  ((h).1 c23)) (fun c23 =>
  J_aload_n (i := 0) rfl rfl d_M_know_104 <|
  kM_203_v rfl rfl rfl (args := []) (((h).2 c23)) d_M_know_105 (fun s18 h19 =>
  J_aload_n (i := 0) rfl rfl d_M_know_108 <|
  J_dup d_M_know_109 <|
  gM_189 rfl d_M_know_110 <|
  J_iconst (v := (1 : Int32)) d_M_know_113 (by decide) <|
  J_iadd d_M_know_114 <|
  pM_189 rfl d_M_know_115 <|
  J_names (fun t20 et20 =>
  J_aload_n (i := 0) rfl rfl d_M_know_118 <|
  J_aload_n (i := 0) rfl rfl d_M_know_119 <|
  gM_189 rfl d_M_know_120 <|
  kM_206_v rfl rfl rfl (args := [.inl (t20 25 31)]) (((h19) t20 et20)) d_M_know_123 (fun s21 h22 =>
  J_goto (tgt := 24) d_M_know_126 (by decide) <|
  h22))))
theorem r_M_isContext_0 {Q : Option mV → mS → Prop} {σ : mS} {x1 : Int32} (h : (x1 < (0 : Int32) → (Q (some (.inl (0 : Int32))) σ)) ∧ (¬ x1 < (0 : Int32) → ((¬ (σ 25 18) = (0 : Int32) → (((σ 25 16) < x1 → (Q (some (.inl (0 : Int32))) σ)) ∧ (¬ (σ 25 16) < x1 → (Q (some (.inl (1 : Int32))) σ)))) ∧ ((σ 25 18) = (0 : Int32) → (((0 : Int32) < x1 → (Q (some (.inl (0 : Int32))) σ)) ∧ (¬ (0 : Int32) < x1 → (Q (some (.inl (1 : Int32))) σ))))))) : J M_M_isContext Q 0 [some (.inr (25, 0)), some (.inl x1)] [] σ :=
  J_iload_n (i := 1) rfl rfl d_M_isContext_0 <|
  J_if_lt (tgt := 27) d_M_isContext_1 (by decide) (fun c4 =>
  J_iconst (v := (0 : Int32)) d_M_isContext_27 (by decide) <|
  J_zret rfl (Or.inl rfl) d_M_isContext_28 (((h).1 c4))) (fun c4 =>
  J_iload_n (i := 1) rfl rfl d_M_isContext_4 <|
  J_aload_n (i := 0) rfl rfl d_M_isContext_5 <|
  gM_163 rfl d_M_isContext_6 <|
  J_if_ne (tgt := 16) d_M_isContext_9 (by decide) (fun c3 =>
  J_aload_n (i := 0) rfl rfl d_M_isContext_16 <|
  gM_160 rfl d_M_isContext_17 <|
  J_icmp_gt (tgt := 27) d_M_isContext_20 (by decide) (fun c1 =>
  J_iconst (v := (0 : Int32)) d_M_isContext_27 (by decide) <|
  J_zret rfl (Or.inl rfl) d_M_isContext_28 (((((((h).2 c4)).1 c3)).1 c1))) (fun c1 =>
  J_iconst (v := (1 : Int32)) d_M_isContext_23 (by decide) <|
  J_goto (tgt := 28) d_M_isContext_24 (by decide) <|
  J_zret rfl (Or.inr rfl) d_M_isContext_28 (((((((h).2 c4)).1 c3)).2 c1)))) (fun c3 =>
  J_iconst (v := (0 : Int32)) d_M_isContext_12 (by decide) <|
  J_goto (tgt := 20) d_M_isContext_13 (by decide) <|
  J_icmp_gt (tgt := 27) d_M_isContext_20 (by decide) (fun c2 =>
  J_iconst (v := (0 : Int32)) d_M_isContext_27 (by decide) <|
  J_zret rfl (Or.inl rfl) d_M_isContext_28 (((((((h).2 c4)).2 c3)).1 c2))) (fun c2 =>
  J_iconst (v := (1 : Int32)) d_M_isContext_23 (by decide) <|
  J_goto (tgt := 28) d_M_isContext_24 (by decide) <|
  J_zret rfl (Or.inr rfl) d_M_isContext_28 (((((((h).2 c4)).2 c3)).2 c2)))))
theorem r_M_points_0 {Q : Option mV → mS → Prop} {σ : mS} {x1 x2 x3 : Int32} (h : MU M_M_isMethod [.inr (25, 0), .inl x1] σ (fun r s1 => ∃ r3, r = some (.inl r3) ∧ ((r3 = (0 : Int32) → (Q (some (.inl (-1 : Int32))) s1)) ∧ (¬ r3 = (0 : Int32) → (MU M_M_isName [.inl x3] s1 (fun r s4 => ∃ r6, r = some (.inl r6) ∧ ((r6 = (0 : Int32) → (Q (some (.inl (-1 : Int32))) s4)) ∧ (¬ r6 = (0 : Int32) → ((x2 = (-1 : Int32) → (J M_M_points Q 30 [some (.inr (25, 0)), some (.inl x1), some (.inl x2), some (.inl x3)] [] s4)) ∧ (¬ x2 = (-1 : Int32) → (MU M_M_isContext [.inr (25, 0), .inl x2] s4 (fun r s7 => ∃ r9, r = some (.inl r9) ∧ ((¬ r9 = (0 : Int32) → (J M_M_points Q 30 [some (.inr (25, 0)), some (.inl x1), some (.inl x2), some (.inl x3)] [] s7)) ∧ (r9 = (0 : Int32) → (Q (some (.inl (-1 : Int32))) s7))))))))))))))) : J M_M_points Q 0 [some (.inr (25, 0)), some (.inl x1), some (.inl x2), some (.inl x3)] [] σ :=
  J_aload_n (i := 0) rfl rfl d_M_points_0 <|
  J_iload_n (i := 1) rfl rfl d_M_points_1 <|
  kM_150_i rfl rfl rfl (args := [.inl x1]) (h) d_M_points_2 (fun r3 s1 h2 =>
  J_if_eq (tgt := 28) d_M_points_5 (by decide) (fun c13 =>
  J_iconst (v := (-1 : Int32)) d_M_points_28 (by decide) <|
  J_iret rfl d_M_points_29 (((h2).1 c13))) (fun c13 =>
  J_iload_n (i := 3) rfl rfl d_M_points_8 <|
  kM_141_i rfl rfl rfl (args := [.inl x3]) (((h2).2 c13)) d_M_points_9 (fun r6 s4 h5 =>
  J_if_eq (tgt := 28) d_M_points_12 (by decide) (fun c12 =>
  J_iconst (v := (-1 : Int32)) d_M_points_28 (by decide) <|
  J_iret rfl d_M_points_29 (((h5).1 c12))) (fun c12 =>
  J_iload_n (i := 2) rfl rfl d_M_points_15 <|
  J_iconst (v := (-1 : Int32)) d_M_points_16 (by decide) <|
  J_icmp_eq (tgt := 30) d_M_points_17 (by decide) (fun c11 =>
  ((((h5).2 c12)).1 c11)) (fun c11 =>
  J_aload_n (i := 0) rfl rfl d_M_points_20 <|
  J_iload_n (i := 2) rfl rfl d_M_points_21 <|
  kM_210_i rfl rfl rfl (args := [.inl x2]) (((((h5).2 c12)).2 c11)) d_M_points_22 (fun r9 s7 h8 =>
  J_if_ne (tgt := 30) d_M_points_25 (by decide) (fun c10 =>
  ((h8).1 c10)) (fun c10 =>
  J_iconst (v := (-1 : Int32)) d_M_points_28 (by decide) <|
  J_iret rfl d_M_points_29 (((h8).2 c10)))))))))
theorem r_M_points_30 {Q : Option mV → mS → Prop} {σ : mS} {x1 x2 x3 : Int32} (h : MU M_M_know [.inr (25, 0)] σ (fun r s14 => r = none ∧ (((0 : Int32) ≤ x2 → (MU M_M_nameAt [.inl x1, .inl x2, .inl x3] s14 (fun r s16 => ∃ r18, r = some (.inl r18) ∧ (vp_in r18 1260 ∧ (Q (some (.inl (s16 39 r18.toNatClampNeg))) s16))))) ∧ (¬ (0 : Int32) ≤ x2 → (MU M_M_allOf [.inr (25, 0), .inl x1, .inl x3] s14 (fun r s19 => ∃ r21, r = some (.inl r21) ∧ (Q (some (.inl r21)) s19))))))) : J M_M_points Q 30 [some (.inr (25, 0)), some (.inl x1), some (.inl x2), some (.inl x3)] [] σ :=
  J_aload_n (i := 0) rfl rfl d_M_points_30 <|
  kM_213_v rfl rfl rfl (args := []) (h) d_M_points_31 (fun s14 h15 =>
  J_iload_n (i := 2) rfl rfl d_M_points_34 <|
  J_if_ge (tgt := 47) d_M_points_35 (by decide) (fun c22 =>
  J_aload_n (i := 0) rfl rfl d_M_points_47 <|
  gM_49 rfl d_M_points_48 <|
  J_iload_n (i := 1) rfl rfl d_M_points_51 <|
  J_iload_n (i := 2) rfl rfl d_M_points_52 <|
  J_iload_n (i := 3) rfl rfl d_M_points_53 <|
  kM_166_i rfl rfl rfl (args := [.inl x1, .inl x2, .inl x3]) (((h15).1 c22)) d_M_points_54 (fun r18 s16 h17 =>
  J_iald (h17).1 d_M_points_57 <|
  J_iret rfl d_M_points_58 ((h17).2))) (fun c22 =>
  J_aload_n (i := 0) rfl rfl d_M_points_38 <|
  J_iload_n (i := 1) rfl rfl d_M_points_39 <|
  J_iload_n (i := 3) rfl rfl d_M_points_40 <|
  kM_183_i rfl rfl rfl (args := [.inl x1, .inl x3]) (((h15).2 c22)) d_M_points_41 (fun r21 s19 h20 =>
  J_goto (tgt := 58) d_M_points_44 (by decide) <|
  J_iret rfl d_M_points_58 (h20))))
theorem r_M_isSite_0 {Q : Option mV → mS → Prop} {σ : mS} {x1 : Int32} (h : (x1 < (0 : Int32) → (Q (some (.inl (0 : Int32))) σ)) ∧ (¬ x1 < (0 : Int32) → (((σ 25 16) ≤ x1 → (Q (some (.inl (0 : Int32))) σ)) ∧ (¬ (σ 25 16) ≤ x1 → (Q (some (.inl (1 : Int32))) σ))))) : J M_M_isSite Q 0 [some (.inr (25, 0)), some (.inl x1)] [] σ :=
  J_iload_n (i := 1) rfl rfl d_M_isSite_0 <|
  J_if_lt (tgt := 16) d_M_isSite_1 (by decide) (fun c2 =>
  J_iconst (v := (0 : Int32)) d_M_isSite_16 (by decide) <|
  J_zret rfl (Or.inl rfl) d_M_isSite_17 (((h).1 c2))) (fun c2 =>
  J_iload_n (i := 1) rfl rfl d_M_isSite_4 <|
  J_aload_n (i := 0) rfl rfl d_M_isSite_5 <|
  gM_160 rfl d_M_isSite_6 <|
  J_icmp_ge (tgt := 16) d_M_isSite_9 (by decide) (fun c1 =>
  J_iconst (v := (0 : Int32)) d_M_isSite_16 (by decide) <|
  J_zret rfl (Or.inl rfl) d_M_isSite_17 (((((h).2 c2)).1 c1))) (fun c1 =>
  J_iconst (v := (1 : Int32)) d_M_isSite_12 (by decide) <|
  J_goto (tgt := 17) d_M_isSite_13 (by decide) <|
  J_zret rfl (Or.inr rfl) d_M_isSite_17 (((((h).2 c2)).2 c1))))
