theorem d_M_field_0 : decode prog_7_method_13_code 0 = .ok (.aload_n 0, 1) := by decide +kernel
theorem d_M_field_1 : decode prog_7_method_13_code 1 = .ok (.iload_n 1, 1) := by decide +kernel
theorem d_M_field_2 : decode prog_7_method_13_code 2 = .ok (.invokevirtual 137, 3) := by decide +kernel
theorem d_M_field_5 : decode prog_7_method_13_code 5 = .ok (.ifCond .ne 5, 3) := by decide +kernel
theorem d_M_field_8 : decode prog_7_method_13_code 8 = .ok (.iconst (-1), 1) := by decide +kernel
theorem d_M_field_9 : decode prog_7_method_13_code 9 = .ok (.ireturn, 1) := by decide +kernel
theorem d_M_field_10 : decode prog_7_method_13_code 10 = .ok (.aload_n 0, 1) := by decide +kernel
theorem d_M_field_11 : decode prog_7_method_13_code 11 = .ok (.getfield 113, 3) := by decide +kernel
theorem d_M_field_14 : decode prog_7_method_13_code 14 = .ok (.bipush 8, 2) := by decide +kernel
theorem d_M_field_16 : decode prog_7_method_13_code 16 = .ok (.if_icmp .ne 6, 3) := by decide +kernel
theorem d_M_field_19 : decode prog_7_method_13_code 19 = .ok (.bipush (-4), 2) := by decide +kernel
theorem d_M_field_21 : decode prog_7_method_13_code 21 = .ok (.ireturn, 1) := by decide +kernel
theorem d_M_field_22 : decode prog_7_method_13_code 22 = .ok (.aload_n 0, 1) := by decide +kernel
theorem d_M_field_23 : decode prog_7_method_13_code 23 = .ok (.getfield 13, 3) := by decide +kernel
theorem d_M_field_26 : decode prog_7_method_13_code 26 = .ok (.aload_n 0, 1) := by decide +kernel
theorem d_M_field_27 : decode prog_7_method_13_code 27 = .ok (.getfield 113, 3) := by decide +kernel
theorem d_M_field_30 : decode prog_7_method_13_code 30 = .ok (.iload_n 1, 1) := by decide +kernel
theorem d_M_field_31 : decode prog_7_method_13_code 31 = .ok (.iastore, 1) := by decide +kernel
theorem d_M_field_32 : decode prog_7_method_13_code 32 = .ok (.aload_n 0, 1) := by decide +kernel
theorem d_M_field_33 : decode prog_7_method_13_code 33 = .ok (.dup, 1) := by decide +kernel
theorem d_M_field_34 : decode prog_7_method_13_code 34 = .ok (.getfield 113, 3) := by decide +kernel
theorem d_M_field_37 : decode prog_7_method_13_code 37 = .ok (.iconst 1, 1) := by decide +kernel
theorem d_M_field_38 : decode prog_7_method_13_code 38 = .ok (.iadd, 1) := by decide +kernel
theorem d_M_field_39 : decode prog_7_method_13_code 39 = .ok (.putfield 113, 3) := by decide +kernel
theorem d_M_field_42 : decode prog_7_method_13_code 42 = .ok (.aload_n 0, 1) := by decide +kernel
theorem d_M_field_43 : decode prog_7_method_13_code 43 = .ok (.invokevirtual 134, 3) := by decide +kernel
theorem d_M_field_46 : decode prog_7_method_13_code 46 = .ok (.aload_n 0, 1) := by decide +kernel
theorem d_M_field_47 : decode prog_7_method_13_code 47 = .ok (.getfield 113, 3) := by decide +kernel
theorem d_M_field_50 : decode prog_7_method_13_code 50 = .ok (.iconst 1, 1) := by decide +kernel
theorem d_M_field_51 : decode prog_7_method_13_code 51 = .ok (.isub, 1) := by decide +kernel
theorem d_M_field_52 : decode prog_7_method_13_code 52 = .ok (.ireturn, 1) := by decide +kernel
theorem d_M_method_0 : decode prog_7_method_14_code 0 = .ok (.aload_n 0, 1) := by decide +kernel
theorem d_M_method_1 : decode prog_7_method_14_code 1 = .ok (.iload_n 1, 1) := by decide +kernel
theorem d_M_method_2 : decode prog_7_method_14_code 2 = .ok (.invokevirtual 137, 3) := by decide +kernel
theorem d_M_method_5 : decode prog_7_method_14_code 5 = .ok (.ifCond .ne 5, 3) := by decide +kernel
theorem d_M_method_8 : decode prog_7_method_14_code 8 = .ok (.iconst (-1), 1) := by decide +kernel
theorem d_M_method_9 : decode prog_7_method_14_code 9 = .ok (.ireturn, 1) := by decide +kernel
theorem d_M_method_10 : decode prog_7_method_14_code 10 = .ok (.iload_n 2, 1) := by decide +kernel
theorem d_M_method_11 : decode prog_7_method_14_code 11 = .ok (.ifCond .lt 8, 3) := by decide +kernel
theorem d_M_method_14 : decode prog_7_method_14_code 14 = .ok (.iload_n 2, 1) := by decide +kernel
theorem d_M_method_15 : decode prog_7_method_14_code 15 = .ok (.iconst 3, 1) := by decide +kernel
theorem d_M_method_16 : decode prog_7_method_14_code 16 = .ok (.if_icmp .le 6, 3) := by decide +kernel
theorem d_M_method_19 : decode prog_7_method_14_code 19 = .ok (.bipush (-2), 2) := by decide +kernel
theorem d_M_method_21 : decode prog_7_method_14_code 21 = .ok (.ireturn, 1) := by decide +kernel
theorem d_M_method_22 : decode prog_7_method_14_code 22 = .ok (.aload_n 0, 1) := by decide +kernel
theorem d_M_method_23 : decode prog_7_method_14_code 23 = .ok (.iload_n 1, 1) := by decide +kernel
theorem d_M_method_24 : decode prog_7_method_14_code 24 = .ok (.iload_n 2, 1) := by decide +kernel
theorem d_M_method_25 : decode prog_7_method_14_code 25 = .ok (.invokevirtual 123, 3) := by decide +kernel
theorem d_M_method_28 : decode prog_7_method_14_code 28 = .ok (.ifCond .lt 6, 3) := by decide +kernel
theorem d_M_method_31 : decode prog_7_method_14_code 31 = .ok (.bipush (-3), 2) := by decide +kernel
theorem d_M_method_33 : decode prog_7_method_14_code 33 = .ok (.ireturn, 1) := by decide +kernel
theorem d_M_method_34 : decode prog_7_method_14_code 34 = .ok (.aload_n 0, 1) := by decide +kernel
theorem d_M_method_35 : decode prog_7_method_14_code 35 = .ok (.getfield 116, 3) := by decide +kernel
theorem d_M_method_38 : decode prog_7_method_14_code 38 = .ok (.bipush 10, 2) := by decide +kernel
theorem d_M_method_40 : decode prog_7_method_14_code 40 = .ok (.if_icmp .ne 6, 3) := by decide +kernel
theorem d_M_method_43 : decode prog_7_method_14_code 43 = .ok (.bipush (-4), 2) := by decide +kernel
theorem d_M_method_45 : decode prog_7_method_14_code 45 = .ok (.ireturn, 1) := by decide +kernel
theorem d_M_method_46 : decode prog_7_method_14_code 46 = .ok (.aload_n 0, 1) := by decide +kernel
theorem d_M_method_47 : decode prog_7_method_14_code 47 = .ok (.getfield 16, 3) := by decide +kernel
theorem d_M_method_50 : decode prog_7_method_14_code 50 = .ok (.aload_n 0, 1) := by decide +kernel
theorem d_M_method_51 : decode prog_7_method_14_code 51 = .ok (.getfield 116, 3) := by decide +kernel
theorem d_M_method_54 : decode prog_7_method_14_code 54 = .ok (.iload_n 1, 1) := by decide +kernel
theorem d_M_method_55 : decode prog_7_method_14_code 55 = .ok (.iastore, 1) := by decide +kernel
theorem d_M_method_56 : decode prog_7_method_14_code 56 = .ok (.aload_n 0, 1) := by decide +kernel
theorem d_M_method_57 : decode prog_7_method_14_code 57 = .ok (.getfield 19, 3) := by decide +kernel
theorem d_M_method_60 : decode prog_7_method_14_code 60 = .ok (.aload_n 0, 1) := by decide +kernel
theorem d_M_method_61 : decode prog_7_method_14_code 61 = .ok (.getfield 116, 3) := by decide +kernel
theorem d_M_method_64 : decode prog_7_method_14_code 64 = .ok (.iload_n 2, 1) := by decide +kernel
theorem d_M_method_65 : decode prog_7_method_14_code 65 = .ok (.iastore, 1) := by decide +kernel
theorem d_M_method_66 : decode prog_7_method_14_code 66 = .ok (.aload_n 0, 1) := by decide +kernel
theorem d_M_method_67 : decode prog_7_method_14_code 67 = .ok (.dup, 1) := by decide +kernel
theorem d_M_method_68 : decode prog_7_method_14_code 68 = .ok (.getfield 116, 3) := by decide +kernel
theorem d_M_method_71 : decode prog_7_method_14_code 71 = .ok (.iconst 1, 1) := by decide +kernel
theorem d_M_method_72 : decode prog_7_method_14_code 72 = .ok (.iadd, 1) := by decide +kernel
theorem d_M_method_73 : decode prog_7_method_14_code 73 = .ok (.putfield 116, 3) := by decide +kernel
theorem d_M_method_76 : decode prog_7_method_14_code 76 = .ok (.aload_n 0, 1) := by decide +kernel
theorem d_M_method_77 : decode prog_7_method_14_code 77 = .ok (.invokevirtual 134, 3) := by decide +kernel
theorem d_M_method_80 : decode prog_7_method_14_code 80 = .ok (.aload_n 0, 1) := by decide +kernel
theorem d_M_method_81 : decode prog_7_method_14_code 81 = .ok (.getfield 116, 3) := by decide +kernel
theorem d_M_method_84 : decode prog_7_method_14_code 84 = .ok (.iconst 1, 1) := by decide +kernel
theorem d_M_method_85 : decode prog_7_method_14_code 85 = .ok (.isub, 1) := by decide +kernel
theorem d_M_method_86 : decode prog_7_method_14_code 86 = .ok (.ireturn, 1) := by decide +kernel
theorem d_M_isGood_0 : decode prog_7_method_15_code 0 = .ok (.iload_n 1, 1) := by decide +kernel
theorem d_M_isGood_1 : decode prog_7_method_15_code 1 = .ok (.tableswitch 202 0 7 #[47, 202, 68, 68, 97, 126, 146, 166], 47) := by decide +kernel
theorem d_M_isGood_48 : decode prog_7_method_15_code 48 = .ok (.iload_n 2, 1) := by decide +kernel
theorem d_M_isGood_49 : decode prog_7_method_15_code 49 = .ok (.invokestatic 141, 3) := by decide +kernel
theorem d_M_isGood_52 : decode prog_7_method_15_code 52 = .ok (.ifCond .eq 15, 3) := by decide +kernel
theorem d_M_isGood_55 : decode prog_7_method_15_code 55 = .ok (.aload_n 0, 1) := by decide +kernel
theorem d_M_isGood_56 : decode prog_7_method_15_code 56 = .ok (.iload_n 3, 1) := by decide +kernel
theorem d_M_isGood_57 : decode prog_7_method_15_code 57 = .ok (.invokevirtual 137, 3) := by decide +kernel
theorem d_M_isGood_60 : decode prog_7_method_15_code 60 = .ok (.ifCond .eq 7, 3) := by decide +kernel
theorem d_M_isGood_63 : decode prog_7_method_15_code 63 = .ok (.iconst 1, 1) := by decide +kernel
theorem d_M_isGood_64 : decode prog_7_method_15_code 64 = .ok (.goto 4, 3) := by decide +kernel
theorem d_M_isGood_67 : decode prog_7_method_15_code 67 = .ok (.iconst 0, 1) := by decide +kernel
theorem d_M_isGood_68 : decode prog_7_method_15_code 68 = .ok (.ireturn, 1) := by decide +kernel
theorem d_M_isGood_69 : decode prog_7_method_15_code 69 = .ok (.iload_n 2, 1) := by decide +kernel
theorem d_M_isGood_70 : decode prog_7_method_15_code 70 = .ok (.invokestatic 141, 3) := by decide +kernel
theorem d_M_isGood_73 : decode prog_7_method_15_code 73 = .ok (.ifCond .eq 23, 3) := by decide +kernel
theorem d_M_isGood_76 : decode prog_7_method_15_code 76 = .ok (.iload_n 3, 1) := by decide +kernel
theorem d_M_isGood_77 : decode prog_7_method_15_code 77 = .ok (.invokestatic 141, 3) := by decide +kernel
theorem d_M_isGood_80 : decode prog_7_method_15_code 80 = .ok (.ifCond .eq 16, 3) := by decide +kernel
theorem d_M_isGood_83 : decode prog_7_method_15_code 83 = .ok (.aload_n 0, 1) := by decide +kernel
theorem d_M_isGood_84 : decode prog_7_method_15_code 84 = .ok (.iload 4, 2) := by decide +kernel
theorem d_M_isGood_86 : decode prog_7_method_15_code 86 = .ok (.invokevirtual 144, 3) := by decide +kernel
theorem d_M_isGood_89 : decode prog_7_method_15_code 89 = .ok (.ifCond .eq 7, 3) := by decide +kernel
theorem d_M_isGood_92 : decode prog_7_method_15_code 92 = .ok (.iconst 1, 1) := by decide +kernel
theorem d_M_isGood_93 : decode prog_7_method_15_code 93 = .ok (.goto 4, 3) := by decide +kernel
theorem d_M_isGood_96 : decode prog_7_method_15_code 96 = .ok (.iconst 0, 1) := by decide +kernel
theorem d_M_isGood_97 : decode prog_7_method_15_code 97 = .ok (.ireturn, 1) := by decide +kernel
theorem d_M_isGood_98 : decode prog_7_method_15_code 98 = .ok (.iload_n 2, 1) := by decide +kernel
theorem d_M_isGood_99 : decode prog_7_method_15_code 99 = .ok (.invokestatic 141, 3) := by decide +kernel
theorem d_M_isGood_102 : decode prog_7_method_15_code 102 = .ok (.ifCond .eq 23, 3) := by decide +kernel
theorem d_M_isGood_105 : decode prog_7_method_15_code 105 = .ok (.iload_n 3, 1) := by decide +kernel
theorem d_M_isGood_106 : decode prog_7_method_15_code 106 = .ok (.invokestatic 141, 3) := by decide +kernel
theorem d_M_isGood_109 : decode prog_7_method_15_code 109 = .ok (.ifCond .eq 16, 3) := by decide +kernel
theorem d_M_isGood_112 : decode prog_7_method_15_code 112 = .ok (.aload_n 0, 1) := by decide +kernel
theorem d_M_isGood_113 : decode prog_7_method_15_code 113 = .ok (.iload 4, 2) := by decide +kernel
theorem d_M_isGood_115 : decode prog_7_method_15_code 115 = .ok (.invokevirtual 137, 3) := by decide +kernel
theorem d_M_isGood_118 : decode prog_7_method_15_code 118 = .ok (.ifCond .eq 7, 3) := by decide +kernel
theorem d_M_isGood_121 : decode prog_7_method_15_code 121 = .ok (.iconst 1, 1) := by decide +kernel
theorem d_M_isGood_122 : decode prog_7_method_15_code 122 = .ok (.goto 4, 3) := by decide +kernel
theorem d_M_isGood_125 : decode prog_7_method_15_code 125 = .ok (.iconst 0, 1) := by decide +kernel
theorem d_M_isGood_126 : decode prog_7_method_15_code 126 = .ok (.ireturn, 1) := by decide +kernel
theorem d_M_isGood_127 : decode prog_7_method_15_code 127 = .ok (.iload_n 2, 1) := by decide +kernel
theorem d_M_isGood_128 : decode prog_7_method_15_code 128 = .ok (.invokestatic 141, 3) := by decide +kernel
theorem d_M_isGood_131 : decode prog_7_method_15_code 131 = .ok (.ifCond .eq 14, 3) := by decide +kernel
theorem d_M_isGood_134 : decode prog_7_method_15_code 134 = .ok (.iload_n 3, 1) := by decide +kernel
theorem d_M_isGood_135 : decode prog_7_method_15_code 135 = .ok (.invokestatic 147, 3) := by decide +kernel
theorem d_M_isGood_138 : decode prog_7_method_15_code 138 = .ok (.ifCond .eq 7, 3) := by decide +kernel
theorem d_M_isGood_141 : decode prog_7_method_15_code 141 = .ok (.iconst 1, 1) := by decide +kernel
theorem d_M_isGood_142 : decode prog_7_method_15_code 142 = .ok (.goto 4, 3) := by decide +kernel
theorem d_M_isGood_145 : decode prog_7_method_15_code 145 = .ok (.iconst 0, 1) := by decide +kernel
theorem d_M_isGood_146 : decode prog_7_method_15_code 146 = .ok (.ireturn, 1) := by decide +kernel
theorem d_M_isGood_147 : decode prog_7_method_15_code 147 = .ok (.iload_n 2, 1) := by decide +kernel
theorem d_M_isGood_148 : decode prog_7_method_15_code 148 = .ok (.invokestatic 147, 3) := by decide +kernel
theorem d_M_isGood_151 : decode prog_7_method_15_code 151 = .ok (.ifCond .eq 14, 3) := by decide +kernel
theorem d_M_isGood_154 : decode prog_7_method_15_code 154 = .ok (.iload_n 3, 1) := by decide +kernel
theorem d_M_isGood_155 : decode prog_7_method_15_code 155 = .ok (.invokestatic 141, 3) := by decide +kernel
theorem d_M_isGood_158 : decode prog_7_method_15_code 158 = .ok (.ifCond .eq 7, 3) := by decide +kernel
theorem d_M_isGood_161 : decode prog_7_method_15_code 161 = .ok (.iconst 1, 1) := by decide +kernel
theorem d_M_isGood_162 : decode prog_7_method_15_code 162 = .ok (.goto 4, 3) := by decide +kernel
theorem d_M_isGood_165 : decode prog_7_method_15_code 165 = .ok (.iconst 0, 1) := by decide +kernel
theorem d_M_isGood_166 : decode prog_7_method_15_code 166 = .ok (.ireturn, 1) := by decide +kernel
theorem d_M_isGood_167 : decode prog_7_method_15_code 167 = .ok (.iload_n 2, 1) := by decide +kernel
theorem d_M_isGood_168 : decode prog_7_method_15_code 168 = .ok (.invokestatic 141, 3) := by decide +kernel
theorem d_M_isGood_171 : decode prog_7_method_15_code 171 = .ok (.ifCond .eq 30, 3) := by decide +kernel
theorem d_M_isGood_174 : decode prog_7_method_15_code 174 = .ok (.iload_n 3, 1) := by decide +kernel
theorem d_M_isGood_175 : decode prog_7_method_15_code 175 = .ok (.invokestatic 141, 3) := by decide +kernel
theorem d_M_isGood_178 : decode prog_7_method_15_code 178 = .ok (.ifCond .eq 23, 3) := by decide +kernel
theorem d_M_isGood_181 : decode prog_7_method_15_code 181 = .ok (.iload 5, 2) := by decide +kernel
theorem d_M_isGood_183 : decode prog_7_method_15_code 183 = .ok (.invokestatic 141, 3) := by decide +kernel
theorem d_M_isGood_186 : decode prog_7_method_15_code 186 = .ok (.ifCond .eq 15, 3) := by decide +kernel
theorem d_M_isGood_189 : decode prog_7_method_15_code 189 = .ok (.iload 6, 2) := by decide +kernel
theorem d_M_isGood_191 : decode prog_7_method_15_code 191 = .ok (.invokestatic 141, 3) := by decide +kernel
theorem d_M_isGood_194 : decode prog_7_method_15_code 194 = .ok (.ifCond .eq 7, 3) := by decide +kernel
theorem d_M_isGood_197 : decode prog_7_method_15_code 197 = .ok (.iconst 1, 1) := by decide +kernel
theorem d_M_isGood_198 : decode prog_7_method_15_code 198 = .ok (.goto 4, 3) := by decide +kernel
theorem d_M_isGood_201 : decode prog_7_method_15_code 201 = .ok (.iconst 0, 1) := by decide +kernel
theorem d_M_isGood_202 : decode prog_7_method_15_code 202 = .ok (.ireturn, 1) := by decide +kernel
theorem d_M_isGood_203 : decode prog_7_method_15_code 203 = .ok (.iload_n 2, 1) := by decide +kernel
theorem d_M_isGood_204 : decode prog_7_method_15_code 204 = .ok (.invokestatic 141, 3) := by decide +kernel
theorem d_M_isGood_207 : decode prog_7_method_15_code 207 = .ok (.ifCond .eq 14, 3) := by decide +kernel
theorem d_M_isGood_210 : decode prog_7_method_15_code 210 = .ok (.iload_n 3, 1) := by decide +kernel
theorem d_M_isGood_211 : decode prog_7_method_15_code 211 = .ok (.invokestatic 141, 3) := by decide +kernel
theorem d_M_isGood_214 : decode prog_7_method_15_code 214 = .ok (.ifCond .eq 7, 3) := by decide +kernel
theorem d_M_isGood_217 : decode prog_7_method_15_code 217 = .ok (.iconst 1, 1) := by decide +kernel
theorem d_M_isGood_218 : decode prog_7_method_15_code 218 = .ok (.goto 4, 3) := by decide +kernel
theorem d_M_isGood_221 : decode prog_7_method_15_code 221 = .ok (.iconst 0, 1) := by decide +kernel
theorem d_M_isGood_222 : decode prog_7_method_15_code 222 = .ok (.ireturn, 1) := by decide +kernel
theorem d_M_statement_0 : decode prog_7_method_16_code 0 = .ok (.aload_n 0, 1) := by decide +kernel
theorem d_M_statement_1 : decode prog_7_method_16_code 1 = .ok (.iload_n 1, 1) := by decide +kernel
theorem d_M_statement_2 : decode prog_7_method_16_code 2 = .ok (.invokevirtual 150, 3) := by decide +kernel
theorem d_M_statement_5 : decode prog_7_method_16_code 5 = .ok (.ifCond .ne 5, 3) := by decide +kernel
theorem d_M_statement_8 : decode prog_7_method_16_code 8 = .ok (.iconst (-1), 1) := by decide +kernel
theorem d_M_statement_9 : decode prog_7_method_16_code 9 = .ok (.ireturn, 1) := by decide +kernel
theorem d_M_statement_10 : decode prog_7_method_16_code 10 = .ok (.iload_n 2, 1) := by decide +kernel
theorem d_M_statement_11 : decode prog_7_method_16_code 11 = .ok (.ifCond .lt 9, 3) := by decide +kernel
theorem d_M_statement_14 : decode prog_7_method_16_code 14 = .ok (.iload_n 2, 1) := by decide +kernel
theorem d_M_statement_15 : decode prog_7_method_16_code 15 = .ok (.bipush 9, 2) := by decide +kernel
theorem d_M_statement_17 : decode prog_7_method_16_code 17 = .ok (.if_icmp .le 6, 3) := by decide +kernel
theorem d_M_statement_20 : decode prog_7_method_16_code 20 = .ok (.bipush (-2), 2) := by decide +kernel
theorem d_M_statement_22 : decode prog_7_method_16_code 22 = .ok (.ireturn, 1) := by decide +kernel
theorem d_M_statement_23 : decode prog_7_method_16_code 23 = .ok (.aload_n 0, 1) := by decide +kernel
theorem d_M_statement_24 : decode prog_7_method_16_code 24 = .ok (.iload_n 2, 1) := by decide +kernel
theorem d_M_statement_25 : decode prog_7_method_16_code 25 = .ok (.iload_n 3, 1) := by decide +kernel
theorem d_M_statement_26 : decode prog_7_method_16_code 26 = .ok (.iload 4, 2) := by decide +kernel
theorem d_M_statement_28 : decode prog_7_method_16_code 28 = .ok (.iload 5, 2) := by decide +kernel
theorem d_M_statement_30 : decode prog_7_method_16_code 30 = .ok (.iload 6, 2) := by decide +kernel
theorem d_M_statement_32 : decode prog_7_method_16_code 32 = .ok (.iload 7, 2) := by decide +kernel
theorem d_M_statement_34 : decode prog_7_method_16_code 34 = .ok (.invokevirtual 153, 3) := by decide +kernel
theorem d_M_statement_37 : decode prog_7_method_16_code 37 = .ok (.ifCond .ne 5, 3) := by decide +kernel
theorem d_M_statement_40 : decode prog_7_method_16_code 40 = .ok (.iconst (-1), 1) := by decide +kernel
theorem d_M_statement_41 : decode prog_7_method_16_code 41 = .ok (.ireturn, 1) := by decide +kernel
theorem d_M_statement_42 : decode prog_7_method_16_code 42 = .ok (.iload_n 2, 1) := by decide +kernel
theorem d_M_statement_43 : decode prog_7_method_16_code 43 = .ok (.bipush 7, 2) := by decide +kernel
theorem d_M_statement_45 : decode prog_7_method_16_code 45 = .ok (.if_icmp .ne 17, 3) := by decide +kernel
theorem d_M_statement_48 : decode prog_7_method_16_code 48 = .ok (.iload 5, 2) := by decide +kernel
theorem d_M_statement_50 : decode prog_7_method_16_code 50 = .ok (.ifCond .lt 9, 3) := by decide +kernel
theorem d_M_statement_53 : decode prog_7_method_16_code 53 = .ok (.iload 5, 2) := by decide +kernel
theorem d_M_statement_55 : decode prog_7_method_16_code 55 = .ok (.iconst 3, 1) := by decide +kernel
theorem d_M_statement_56 : decode prog_7_method_16_code 56 = .ok (.if_icmp .le 6, 3) := by decide +kernel
theorem d_M_statement_59 : decode prog_7_method_16_code 59 = .ok (.bipush (-2), 2) := by decide +kernel
theorem d_M_statement_61 : decode prog_7_method_16_code 61 = .ok (.ireturn, 1) := by decide +kernel
theorem d_M_statement_62 : decode prog_7_method_16_code 62 = .ok (.aload_n 0, 1) := by decide +kernel
theorem d_M_statement_63 : decode prog_7_method_16_code 63 = .ok (.getfield 157, 3) := by decide +kernel
theorem d_M_statement_66 : decode prog_7_method_16_code 66 = .ok (.bipush 60, 2) := by decide +kernel
theorem d_M_statement_68 : decode prog_7_method_16_code 68 = .ok (.if_icmp .eq 16, 3) := by decide +kernel
theorem d_M_statement_71 : decode prog_7_method_16_code 71 = .ok (.iload_n 2, 1) := by decide +kernel
theorem d_M_statement_72 : decode prog_7_method_16_code 72 = .ok (.ifCond .ne 15, 3) := by decide +kernel
theorem d_M_statement_75 : decode prog_7_method_16_code 75 = .ok (.aload_n 0, 1) := by decide +kernel
theorem d_M_statement_76 : decode prog_7_method_16_code 76 = .ok (.getfield 160, 3) := by decide +kernel
theorem d_M_statement_79 : decode prog_7_method_16_code 79 = .ok (.bipush 20, 2) := by decide +kernel
theorem d_M_statement_81 : decode prog_7_method_16_code 81 = .ok (.if_icmp .ne 6, 3) := by decide +kernel
theorem d_M_statement_84 : decode prog_7_method_16_code 84 = .ok (.bipush (-4), 2) := by decide +kernel
theorem d_M_statement_86 : decode prog_7_method_16_code 86 = .ok (.ireturn, 1) := by decide +kernel
theorem d_M_statement_87 : decode prog_7_method_16_code 87 = .ok (.aload_n 0, 1) := by decide +kernel
theorem d_M_statement_88 : decode prog_7_method_16_code 88 = .ok (.getfield 157, 3) := by decide +kernel
theorem d_M_statement_91 : decode prog_7_method_16_code 91 = .ok (.istore 8, 2) := by decide +kernel
theorem d_M_statement_93 : decode prog_7_method_16_code 93 = .ok (.aload_n 0, 1) := by decide +kernel
theorem d_M_statement_94 : decode prog_7_method_16_code 94 = .ok (.getfield 22, 3) := by decide +kernel
theorem d_M_statement_97 : decode prog_7_method_16_code 97 = .ok (.iload 8, 2) := by decide +kernel
theorem d_M_statement_99 : decode prog_7_method_16_code 99 = .ok (.iload_n 1, 1) := by decide +kernel
theorem d_M_statement_100 : decode prog_7_method_16_code 100 = .ok (.iastore, 1) := by decide +kernel
theorem d_M_statement_101 : decode prog_7_method_16_code 101 = .ok (.aload_n 0, 1) := by decide +kernel
theorem d_M_statement_102 : decode prog_7_method_16_code 102 = .ok (.getfield 25, 3) := by decide +kernel
theorem d_M_statement_105 : decode prog_7_method_16_code 105 = .ok (.iload 8, 2) := by decide +kernel
theorem d_M_statement_107 : decode prog_7_method_16_code 107 = .ok (.iload_n 2, 1) := by decide +kernel
theorem d_M_statement_108 : decode prog_7_method_16_code 108 = .ok (.iastore, 1) := by decide +kernel
theorem d_M_statement_109 : decode prog_7_method_16_code 109 = .ok (.aload_n 0, 1) := by decide +kernel
theorem d_M_statement_110 : decode prog_7_method_16_code 110 = .ok (.getfield 28, 3) := by decide +kernel
theorem d_M_statement_113 : decode prog_7_method_16_code 113 = .ok (.iload 8, 2) := by decide +kernel
theorem d_M_statement_115 : decode prog_7_method_16_code 115 = .ok (.iload_n 3, 1) := by decide +kernel
theorem d_M_statement_116 : decode prog_7_method_16_code 116 = .ok (.iastore, 1) := by decide +kernel
theorem d_M_statement_117 : decode prog_7_method_16_code 117 = .ok (.aload_n 0, 1) := by decide +kernel
theorem d_M_statement_118 : decode prog_7_method_16_code 118 = .ok (.getfield 31, 3) := by decide +kernel
theorem d_M_statement_121 : decode prog_7_method_16_code 121 = .ok (.iload 8, 2) := by decide +kernel
theorem d_M_statement_123 : decode prog_7_method_16_code 123 = .ok (.iload 4, 2) := by decide +kernel
theorem d_M_statement_125 : decode prog_7_method_16_code 125 = .ok (.iastore, 1) := by decide +kernel
theorem d_M_statement_126 : decode prog_7_method_16_code 126 = .ok (.aload_n 0, 1) := by decide +kernel
theorem d_M_statement_127 : decode prog_7_method_16_code 127 = .ok (.getfield 34, 3) := by decide +kernel
theorem d_M_statement_130 : decode prog_7_method_16_code 130 = .ok (.iload 8, 2) := by decide +kernel
theorem d_M_statement_132 : decode prog_7_method_16_code 132 = .ok (.iload 5, 2) := by decide +kernel
theorem d_M_statement_134 : decode prog_7_method_16_code 134 = .ok (.iastore, 1) := by decide +kernel
theorem d_M_statement_135 : decode prog_7_method_16_code 135 = .ok (.aload_n 0, 1) := by decide +kernel
theorem d_M_statement_136 : decode prog_7_method_16_code 136 = .ok (.getfield 37, 3) := by decide +kernel
theorem d_M_statement_139 : decode prog_7_method_16_code 139 = .ok (.iload 8, 2) := by decide +kernel
theorem d_M_statement_141 : decode prog_7_method_16_code 141 = .ok (.iload 6, 2) := by decide +kernel
theorem d_M_statement_143 : decode prog_7_method_16_code 143 = .ok (.iastore, 1) := by decide +kernel
theorem d_M_statement_144 : decode prog_7_method_16_code 144 = .ok (.aload_n 0, 1) := by decide +kernel
theorem d_M_statement_145 : decode prog_7_method_16_code 145 = .ok (.getfield 40, 3) := by decide +kernel
theorem d_M_statement_148 : decode prog_7_method_16_code 148 = .ok (.iload 8, 2) := by decide +kernel
theorem d_M_statement_150 : decode prog_7_method_16_code 150 = .ok (.iload 7, 2) := by decide +kernel
theorem d_M_statement_152 : decode prog_7_method_16_code 152 = .ok (.iastore, 1) := by decide +kernel
theorem d_M_statement_153 : decode prog_7_method_16_code 153 = .ok (.aload_n 0, 1) := by decide +kernel
theorem d_M_statement_154 : decode prog_7_method_16_code 154 = .ok (.getfield 43, 3) := by decide +kernel
theorem d_M_statement_157 : decode prog_7_method_16_code 157 = .ok (.iload 8, 2) := by decide +kernel
theorem d_M_statement_159 : decode prog_7_method_16_code 159 = .ok (.iconst (-1), 1) := by decide +kernel
theorem d_M_statement_160 : decode prog_7_method_16_code 160 = .ok (.iastore, 1) := by decide +kernel
theorem d_M_statement_161 : decode prog_7_method_16_code 161 = .ok (.iload_n 2, 1) := by decide +kernel
theorem d_M_statement_162 : decode prog_7_method_16_code 162 = .ok (.ifCond .ne 35, 3) := by decide +kernel
theorem d_M_statement_165 : decode prog_7_method_16_code 165 = .ok (.aload_n 0, 1) := by decide +kernel
theorem d_M_statement_166 : decode prog_7_method_16_code 166 = .ok (.getfield 43, 3) := by decide +kernel
theorem d_M_statement_169 : decode prog_7_method_16_code 169 = .ok (.iload 8, 2) := by decide +kernel
theorem d_M_statement_171 : decode prog_7_method_16_code 171 = .ok (.aload_n 0, 1) := by decide +kernel
theorem d_M_statement_172 : decode prog_7_method_16_code 172 = .ok (.getfield 160, 3) := by decide +kernel
theorem d_M_statement_175 : decode prog_7_method_16_code 175 = .ok (.iastore, 1) := by decide +kernel
theorem d_M_statement_176 : decode prog_7_method_16_code 176 = .ok (.aload_n 0, 1) := by decide +kernel
theorem d_M_statement_177 : decode prog_7_method_16_code 177 = .ok (.getfield 46, 3) := by decide +kernel
theorem d_M_statement_180 : decode prog_7_method_16_code 180 = .ok (.aload_n 0, 1) := by decide +kernel
theorem d_M_statement_181 : decode prog_7_method_16_code 181 = .ok (.getfield 160, 3) := by decide +kernel
theorem d_M_statement_184 : decode prog_7_method_16_code 184 = .ok (.iload 4, 2) := by decide +kernel
theorem d_M_statement_186 : decode prog_7_method_16_code 186 = .ok (.iastore, 1) := by decide +kernel
theorem d_M_statement_187 : decode prog_7_method_16_code 187 = .ok (.aload_n 0, 1) := by decide +kernel
theorem d_M_statement_188 : decode prog_7_method_16_code 188 = .ok (.dup, 1) := by decide +kernel
theorem d_M_statement_189 : decode prog_7_method_16_code 189 = .ok (.getfield 160, 3) := by decide +kernel
theorem d_M_statement_192 : decode prog_7_method_16_code 192 = .ok (.iconst 1, 1) := by decide +kernel
theorem d_M_statement_193 : decode prog_7_method_16_code 193 = .ok (.iadd, 1) := by decide +kernel
theorem d_M_statement_194 : decode prog_7_method_16_code 194 = .ok (.putfield 160, 3) := by decide +kernel
theorem d_M_statement_197 : decode prog_7_method_16_code 197 = .ok (.aload_n 0, 1) := by decide +kernel
theorem d_M_statement_198 : decode prog_7_method_16_code 198 = .ok (.dup, 1) := by decide +kernel
theorem d_M_statement_199 : decode prog_7_method_16_code 199 = .ok (.getfield 157, 3) := by decide +kernel
theorem d_M_statement_202 : decode prog_7_method_16_code 202 = .ok (.iconst 1, 1) := by decide +kernel
theorem d_M_statement_203 : decode prog_7_method_16_code 203 = .ok (.iadd, 1) := by decide +kernel
theorem d_M_statement_204 : decode prog_7_method_16_code 204 = .ok (.putfield 157, 3) := by decide +kernel
theorem d_M_statement_207 : decode prog_7_method_16_code 207 = .ok (.aload_n 0, 1) := by decide +kernel
theorem d_M_statement_208 : decode prog_7_method_16_code 208 = .ok (.invokevirtual 134, 3) := by decide +kernel
theorem d_M_statement_211 : decode prog_7_method_16_code 211 = .ok (.iload 8, 2) := by decide +kernel
theorem d_M_statement_213 : decode prog_7_method_16_code 213 = .ok (.ireturn, 1) := by decide +kernel
theorem d_M_mode_0 : decode prog_7_method_17_code 0 = .ok (.iload_n 1, 1) := by decide +kernel
theorem d_M_mode_1 : decode prog_7_method_17_code 1 = .ok (.ifCond .lt 8, 3) := by decide +kernel
theorem d_M_mode_4 : decode prog_7_method_17_code 4 = .ok (.iload_n 1, 1) := by decide +kernel
theorem d_M_mode_5 : decode prog_7_method_17_code 5 = .ok (.iconst 1, 1) := by decide +kernel
theorem d_M_mode_6 : decode prog_7_method_17_code 6 = .ok (.if_icmp .le 6, 3) := by decide +kernel
theorem d_M_mode_9 : decode prog_7_method_17_code 9 = .ok (.bipush (-2), 2) := by decide +kernel
theorem d_M_mode_11 : decode prog_7_method_17_code 11 = .ok (.ireturn, 1) := by decide +kernel
theorem d_M_mode_12 : decode prog_7_method_17_code 12 = .ok (.aload_n 0, 1) := by decide +kernel
theorem d_M_mode_13 : decode prog_7_method_17_code 13 = .ok (.getfield 163, 3) := by decide +kernel
theorem d_M_mode_16 : decode prog_7_method_17_code 16 = .ok (.istore_n 2, 1) := by decide +kernel
theorem d_M_mode_17 : decode prog_7_method_17_code 17 = .ok (.aload_n 0, 1) := by decide +kernel
theorem d_M_mode_18 : decode prog_7_method_17_code 18 = .ok (.iload_n 1, 1) := by decide +kernel
theorem d_M_mode_19 : decode prog_7_method_17_code 19 = .ok (.putfield 163, 3) := by decide +kernel
theorem d_M_mode_22 : decode prog_7_method_17_code 22 = .ok (.aload_n 0, 1) := by decide +kernel
theorem d_M_mode_23 : decode prog_7_method_17_code 23 = .ok (.invokevirtual 134, 3) := by decide +kernel
theorem d_M_mode_26 : decode prog_7_method_17_code 26 = .ok (.iload_n 2, 1) := by decide +kernel
theorem d_M_mode_27 : decode prog_7_method_17_code 27 = .ok (.ireturn, 1) := by decide +kernel
theorem d_M_clear_0 : decode prog_7_method_18_code 0 = .ok (.aload_n 0, 1) := by decide +kernel
theorem d_M_clear_1 : decode prog_7_method_18_code 1 = .ok (.getfield 157, 3) := by decide +kernel
theorem d_M_clear_4 : decode prog_7_method_18_code 4 = .ok (.istore_n 1, 1) := by decide +kernel
theorem d_M_clear_5 : decode prog_7_method_18_code 5 = .ok (.aload_n 0, 1) := by decide +kernel
theorem d_M_clear_6 : decode prog_7_method_18_code 6 = .ok (.iconst 0, 1) := by decide +kernel
theorem d_M_clear_7 : decode prog_7_method_18_code 7 = .ok (.putfield 109, 3) := by decide +kernel
theorem d_M_clear_10 : decode prog_7_method_18_code 10 = .ok (.aload_n 0, 1) := by decide +kernel
theorem d_M_clear_11 : decode prog_7_method_18_code 11 = .ok (.iconst 0, 1) := by decide +kernel
theorem d_M_clear_12 : decode prog_7_method_18_code 12 = .ok (.putfield 113, 3) := by decide +kernel
theorem d_M_clear_15 : decode prog_7_method_18_code 15 = .ok (.aload_n 0, 1) := by decide +kernel
theorem d_M_clear_16 : decode prog_7_method_18_code 16 = .ok (.iconst 0, 1) := by decide +kernel
theorem d_M_clear_17 : decode prog_7_method_18_code 17 = .ok (.putfield 116, 3) := by decide +kernel
theorem d_M_clear_20 : decode prog_7_method_18_code 20 = .ok (.aload_n 0, 1) := by decide +kernel
theorem d_M_clear_21 : decode prog_7_method_18_code 21 = .ok (.iconst 0, 1) := by decide +kernel
theorem d_M_clear_22 : decode prog_7_method_18_code 22 = .ok (.putfield 157, 3) := by decide +kernel
theorem d_M_clear_25 : decode prog_7_method_18_code 25 = .ok (.aload_n 0, 1) := by decide +kernel
theorem d_M_clear_26 : decode prog_7_method_18_code 26 = .ok (.iconst 0, 1) := by decide +kernel
theorem d_M_clear_27 : decode prog_7_method_18_code 27 = .ok (.putfield 160, 3) := by decide +kernel
theorem d_M_clear_30 : decode prog_7_method_18_code 30 = .ok (.aload_n 0, 1) := by decide +kernel
theorem d_M_clear_31 : decode prog_7_method_18_code 31 = .ok (.invokevirtual 134, 3) := by decide +kernel
theorem d_M_clear_34 : decode prog_7_method_18_code 34 = .ok (.iload_n 1, 1) := by decide +kernel
theorem d_M_clear_35 : decode prog_7_method_18_code 35 = .ok (.ireturn, 1) := by decide +kernel
theorem d_M_nameAt_0 : decode prog_7_method_19_code 0 = .ok (.bipush 126, 2) := by decide +kernel
theorem d_M_nameAt_2 : decode prog_7_method_19_code 2 = .ok (.iload_n 0, 1) := by decide +kernel
theorem d_M_nameAt_3 : decode prog_7_method_19_code 3 = .ok (.imul, 1) := by decide +kernel
theorem d_M_nameAt_4 : decode prog_7_method_19_code 4 = .ok (.bipush 6, 2) := by decide +kernel
theorem d_M_nameAt_6 : decode prog_7_method_19_code 6 = .ok (.iload_n 1, 1) := by decide +kernel
theorem d_M_nameAt_7 : decode prog_7_method_19_code 7 = .ok (.imul, 1) := by decide +kernel
theorem d_M_nameAt_8 : decode prog_7_method_19_code 8 = .ok (.iadd, 1) := by decide +kernel
theorem d_M_nameAt_9 : decode prog_7_method_19_code 9 = .ok (.iload_n 2, 1) := by decide +kernel
theorem d_M_nameAt_10 : decode prog_7_method_19_code 10 = .ok (.iadd, 1) := by decide +kernel
theorem d_M_nameAt_11 : decode prog_7_method_19_code 11 = .ok (.ireturn, 1) := by decide +kernel
theorem d_M_empty_0 : decode prog_7_method_20_code 0 = .ok (.iconst 0, 1) := by decide +kernel
theorem d_M_empty_1 : decode prog_7_method_20_code 1 = .ok (.istore_n 1, 1) := by decide +kernel
theorem d_M_empty_2 : decode prog_7_method_20_code 2 = .ok (.iload_n 1, 1) := by decide +kernel
theorem d_M_empty_3 : decode prog_7_method_20_code 3 = .ok (.sipush 1260, 3) := by decide +kernel
theorem d_M_empty_6 : decode prog_7_method_20_code 6 = .ok (.if_icmp .ge 16, 3) := by decide +kernel
theorem d_M_empty_9 : decode prog_7_method_20_code 9 = .ok (.aload_n 0, 1) := by decide +kernel
theorem d_M_empty_10 : decode prog_7_method_20_code 10 = .ok (.getfield 49, 3) := by decide +kernel
theorem d_M_empty_13 : decode prog_7_method_20_code 13 = .ok (.iload_n 1, 1) := by decide +kernel
theorem d_M_empty_14 : decode prog_7_method_20_code 14 = .ok (.iconst 0, 1) := by decide +kernel
theorem d_M_empty_15 : decode prog_7_method_20_code 15 = .ok (.iastore, 1) := by decide +kernel
theorem d_M_empty_16 : decode prog_7_method_20_code 16 = .ok (.iinc 1 1, 3) := by decide +kernel
theorem d_M_empty_19 : decode prog_7_method_20_code 19 = .ok (.goto (-17), 3) := by decide +kernel
theorem d_M_empty_22 : decode prog_7_method_20_code 22 = .ok (.iconst 0, 1) := by decide +kernel
theorem d_M_empty_23 : decode prog_7_method_20_code 23 = .ok (.istore_n 1, 1) := by decide +kernel
theorem d_M_empty_24 : decode prog_7_method_20_code 24 = .ok (.iload_n 1, 1) := by decide +kernel
theorem d_M_empty_25 : decode prog_7_method_20_code 25 = .ok (.sipush 160, 3) := by decide +kernel
theorem d_M_empty_28 : decode prog_7_method_20_code 28 = .ok (.if_icmp .ge 16, 3) := by decide +kernel
theorem d_M_empty_31 : decode prog_7_method_20_code 31 = .ok (.aload_n 0, 1) := by decide +kernel
theorem d_M_empty_32 : decode prog_7_method_20_code 32 = .ok (.getfield 55, 3) := by decide +kernel
theorem d_M_empty_35 : decode prog_7_method_20_code 35 = .ok (.iload_n 1, 1) := by decide +kernel
theorem d_M_empty_36 : decode prog_7_method_20_code 36 = .ok (.iconst 0, 1) := by decide +kernel
theorem d_M_empty_37 : decode prog_7_method_20_code 37 = .ok (.iastore, 1) := by decide +kernel
theorem d_M_empty_38 : decode prog_7_method_20_code 38 = .ok (.iinc 1 1, 3) := by decide +kernel
theorem d_M_empty_41 : decode prog_7_method_20_code 41 = .ok (.goto (-17), 3) := by decide +kernel
theorem d_M_empty_44 : decode prog_7_method_20_code 44 = .ok (.iconst 0, 1) := by decide +kernel
theorem d_M_empty_45 : decode prog_7_method_20_code 45 = .ok (.istore_n 1, 1) := by decide +kernel
theorem d_M_empty_46 : decode prog_7_method_20_code 46 = .ok (.iload_n 1, 1) := by decide +kernel
theorem d_M_empty_47 : decode prog_7_method_20_code 47 = .ok (.bipush 20, 2) := by decide +kernel
theorem d_M_empty_49 : decode prog_7_method_20_code 49 = .ok (.if_icmp .ge 16, 3) := by decide +kernel
theorem d_M_empty_52 : decode prog_7_method_20_code 52 = .ok (.aload_n 0, 1) := by decide +kernel
theorem d_M_empty_53 : decode prog_7_method_20_code 53 = .ok (.getfield 61, 3) := by decide +kernel
theorem d_M_empty_56 : decode prog_7_method_20_code 56 = .ok (.iload_n 1, 1) := by decide +kernel
theorem d_M_empty_57 : decode prog_7_method_20_code 57 = .ok (.iconst 0, 1) := by decide +kernel
theorem d_M_empty_58 : decode prog_7_method_20_code 58 = .ok (.iastore, 1) := by decide +kernel
theorem d_M_empty_59 : decode prog_7_method_20_code 59 = .ok (.iinc 1 1, 3) := by decide +kernel
theorem d_M_empty_62 : decode prog_7_method_20_code 62 = .ok (.goto (-16), 3) := by decide +kernel
theorem d_M_empty_65 : decode prog_7_method_20_code 65 = .ok (.iconst 0, 1) := by decide +kernel
theorem d_M_empty_66 : decode prog_7_method_20_code 66 = .ok (.istore_n 1, 1) := by decide +kernel
theorem d_M_empty_67 : decode prog_7_method_20_code 67 = .ok (.iload_n 1, 1) := by decide +kernel
theorem d_M_empty_68 : decode prog_7_method_20_code 68 = .ok (.iconst 4, 1) := by decide +kernel
theorem d_M_empty_69 : decode prog_7_method_20_code 69 = .ok (.if_icmp .ge 16, 3) := by decide +kernel
theorem d_M_empty_72 : decode prog_7_method_20_code 72 = .ok (.aload_n 0, 1) := by decide +kernel
theorem d_M_empty_73 : decode prog_7_method_20_code 73 = .ok (.getfield 67, 3) := by decide +kernel
theorem d_M_empty_76 : decode prog_7_method_20_code 76 = .ok (.iload_n 1, 1) := by decide +kernel
theorem d_M_empty_77 : decode prog_7_method_20_code 77 = .ok (.iconst 0, 1) := by decide +kernel
theorem d_M_empty_78 : decode prog_7_method_20_code 78 = .ok (.iastore, 1) := by decide +kernel
theorem d_M_empty_79 : decode prog_7_method_20_code 79 = .ok (.iinc 1 1, 3) := by decide +kernel
theorem d_M_empty_82 : decode prog_7_method_20_code 82 = .ok (.goto (-15), 3) := by decide +kernel
theorem d_M_empty_85 : decode prog_7_method_20_code 85 = .ok (.iconst 0, 1) := by decide +kernel
theorem d_M_empty_86 : decode prog_7_method_20_code 86 = .ok (.istore_n 1, 1) := by decide +kernel
theorem d_M_empty_87 : decode prog_7_method_20_code 87 = .ok (.iload_n 1, 1) := by decide +kernel
theorem d_M_empty_88 : decode prog_7_method_20_code 88 = .ok (.bipush 10, 2) := by decide +kernel
theorem d_M_empty_90 : decode prog_7_method_20_code 90 = .ok (.if_icmp .ge 31, 3) := by decide +kernel
theorem d_M_empty_93 : decode prog_7_method_20_code 93 = .ok (.aload_n 0, 1) := by decide +kernel
theorem d_M_empty_94 : decode prog_7_method_20_code 94 = .ok (.getfield 73, 3) := by decide +kernel
theorem d_M_empty_97 : decode prog_7_method_20_code 97 = .ok (.iload_n 1, 1) := by decide +kernel
theorem d_M_empty_98 : decode prog_7_method_20_code 98 = .ok (.iload_n 1, 1) := by decide +kernel
theorem d_M_empty_99 : decode prog_7_method_20_code 99 = .ok (.ifCond .ne 14, 3) := by decide +kernel
theorem d_M_empty_102 : decode prog_7_method_20_code 102 = .ok (.aload_n 0, 1) := by decide +kernel
theorem d_M_empty_103 : decode prog_7_method_20_code 103 = .ok (.getfield 116, 3) := by decide +kernel
theorem d_M_empty_106 : decode prog_7_method_20_code 106 = .ok (.ifCond .le 7, 3) := by decide +kernel
theorem d_M_empty_109 : decode prog_7_method_20_code 109 = .ok (.iconst 1, 1) := by decide +kernel
theorem d_M_empty_110 : decode prog_7_method_20_code 110 = .ok (.goto 4, 3) := by decide +kernel
theorem d_M_empty_113 : decode prog_7_method_20_code 113 = .ok (.iconst 0, 1) := by decide +kernel
theorem d_M_empty_114 : decode prog_7_method_20_code 114 = .ok (.iastore, 1) := by decide +kernel
theorem d_M_empty_115 : decode prog_7_method_20_code 115 = .ok (.iinc 1 1, 3) := by decide +kernel
theorem d_M_empty_118 : decode prog_7_method_20_code 118 = .ok (.goto (-31), 3) := by decide +kernel
theorem d_M_empty_121 : decode prog_7_method_20_code 121 = .ok (.iconst 0, 1) := by decide +kernel
theorem d_M_empty_122 : decode prog_7_method_20_code 122 = .ok (.istore_n 1, 1) := by decide +kernel
theorem d_M_empty_123 : decode prog_7_method_20_code 123 = .ok (.iload_n 1, 1) := by decide +kernel
theorem d_M_empty_124 : decode prog_7_method_20_code 124 = .ok (.sipush 1200, 3) := by decide +kernel
theorem d_M_empty_127 : decode prog_7_method_20_code 127 = .ok (.if_icmp .ge 16, 3) := by decide +kernel
theorem d_M_empty_130 : decode prog_7_method_20_code 130 = .ok (.aload_n 0, 1) := by decide +kernel
theorem d_M_empty_131 : decode prog_7_method_20_code 131 = .ok (.getfield 79, 3) := by decide +kernel
theorem d_M_empty_134 : decode prog_7_method_20_code 134 = .ok (.iload_n 1, 1) := by decide +kernel
theorem d_M_empty_135 : decode prog_7_method_20_code 135 = .ok (.iconst (-1), 1) := by decide +kernel
theorem d_M_empty_136 : decode prog_7_method_20_code 136 = .ok (.iastore, 1) := by decide +kernel
theorem d_M_empty_137 : decode prog_7_method_20_code 137 = .ok (.iinc 1 1, 3) := by decide +kernel
theorem d_M_empty_140 : decode prog_7_method_20_code 140 = .ok (.goto (-17), 3) := by decide +kernel
theorem d_M_empty_143 : decode prog_7_method_20_code 143 = .ok (.return_, 1) := by decide +kernel
theorem d_M_copy_0 : decode prog_7_method_21_code 0 = .ok (.iconst 0, 1) := by decide +kernel
theorem d_M_copy_1 : decode prog_7_method_21_code 1 = .ok (.istore_n 1, 1) := by decide +kernel
theorem d_M_copy_2 : decode prog_7_method_21_code 2 = .ok (.iload_n 1, 1) := by decide +kernel
theorem d_M_copy_3 : decode prog_7_method_21_code 3 = .ok (.sipush 1260, 3) := by decide +kernel
theorem d_M_copy_6 : decode prog_7_method_21_code 6 = .ok (.if_icmp .ge 21, 3) := by decide +kernel
theorem d_M_copy_9 : decode prog_7_method_21_code 9 = .ok (.aload_n 0, 1) := by decide +kernel
theorem d_M_copy_10 : decode prog_7_method_21_code 10 = .ok (.getfield 52, 3) := by decide +kernel
theorem d_M_copy_13 : decode prog_7_method_21_code 13 = .ok (.iload_n 1, 1) := by decide +kernel
theorem d_M_copy_14 : decode prog_7_method_21_code 14 = .ok (.aload_n 0, 1) := by decide +kernel
theorem d_M_copy_15 : decode prog_7_method_21_code 15 = .ok (.getfield 49, 3) := by decide +kernel
theorem d_M_copy_18 : decode prog_7_method_21_code 18 = .ok (.iload_n 1, 1) := by decide +kernel
theorem d_M_copy_19 : decode prog_7_method_21_code 19 = .ok (.iaload, 1) := by decide +kernel
theorem d_M_copy_20 : decode prog_7_method_21_code 20 = .ok (.iastore, 1) := by decide +kernel
theorem d_M_copy_21 : decode prog_7_method_21_code 21 = .ok (.iinc 1 1, 3) := by decide +kernel
theorem d_M_copy_24 : decode prog_7_method_21_code 24 = .ok (.goto (-22), 3) := by decide +kernel
theorem d_M_copy_27 : decode prog_7_method_21_code 27 = .ok (.iconst 0, 1) := by decide +kernel
theorem d_M_copy_28 : decode prog_7_method_21_code 28 = .ok (.istore_n 1, 1) := by decide +kernel
theorem d_M_copy_29 : decode prog_7_method_21_code 29 = .ok (.iload_n 1, 1) := by decide +kernel
theorem d_M_copy_30 : decode prog_7_method_21_code 30 = .ok (.sipush 160, 3) := by decide +kernel
theorem d_M_copy_33 : decode prog_7_method_21_code 33 = .ok (.if_icmp .ge 21, 3) := by decide +kernel
theorem d_M_copy_36 : decode prog_7_method_21_code 36 = .ok (.aload_n 0, 1) := by decide +kernel
theorem d_M_copy_37 : decode prog_7_method_21_code 37 = .ok (.getfield 58, 3) := by decide +kernel
theorem d_M_copy_40 : decode prog_7_method_21_code 40 = .ok (.iload_n 1, 1) := by decide +kernel
theorem d_M_copy_41 : decode prog_7_method_21_code 41 = .ok (.aload_n 0, 1) := by decide +kernel
theorem d_M_copy_42 : decode prog_7_method_21_code 42 = .ok (.getfield 55, 3) := by decide +kernel
theorem d_M_copy_45 : decode prog_7_method_21_code 45 = .ok (.iload_n 1, 1) := by decide +kernel
theorem d_M_copy_46 : decode prog_7_method_21_code 46 = .ok (.iaload, 1) := by decide +kernel
theorem d_M_copy_47 : decode prog_7_method_21_code 47 = .ok (.iastore, 1) := by decide +kernel
theorem d_M_copy_48 : decode prog_7_method_21_code 48 = .ok (.iinc 1 1, 3) := by decide +kernel
theorem d_M_copy_51 : decode prog_7_method_21_code 51 = .ok (.goto (-22), 3) := by decide +kernel
theorem d_M_copy_54 : decode prog_7_method_21_code 54 = .ok (.iconst 0, 1) := by decide +kernel
theorem d_M_copy_55 : decode prog_7_method_21_code 55 = .ok (.istore_n 1, 1) := by decide +kernel
theorem d_M_copy_56 : decode prog_7_method_21_code 56 = .ok (.iload_n 1, 1) := by decide +kernel
theorem d_M_copy_57 : decode prog_7_method_21_code 57 = .ok (.bipush 20, 2) := by decide +kernel
theorem d_M_copy_59 : decode prog_7_method_21_code 59 = .ok (.if_icmp .ge 21, 3) := by decide +kernel
theorem d_M_copy_62 : decode prog_7_method_21_code 62 = .ok (.aload_n 0, 1) := by decide +kernel
theorem d_M_copy_63 : decode prog_7_method_21_code 63 = .ok (.getfield 64, 3) := by decide +kernel
theorem d_M_copy_66 : decode prog_7_method_21_code 66 = .ok (.iload_n 1, 1) := by decide +kernel
theorem d_M_copy_67 : decode prog_7_method_21_code 67 = .ok (.aload_n 0, 1) := by decide +kernel
theorem d_M_copy_68 : decode prog_7_method_21_code 68 = .ok (.getfield 61, 3) := by decide +kernel
theorem d_M_copy_71 : decode prog_7_method_21_code 71 = .ok (.iload_n 1, 1) := by decide +kernel
theorem d_M_copy_72 : decode prog_7_method_21_code 72 = .ok (.iaload, 1) := by decide +kernel
theorem d_M_copy_73 : decode prog_7_method_21_code 73 = .ok (.iastore, 1) := by decide +kernel
theorem d_M_copy_74 : decode prog_7_method_21_code 74 = .ok (.iinc 1 1, 3) := by decide +kernel
theorem d_M_copy_77 : decode prog_7_method_21_code 77 = .ok (.goto (-21), 3) := by decide +kernel
theorem d_M_copy_80 : decode prog_7_method_21_code 80 = .ok (.iconst 0, 1) := by decide +kernel
theorem d_M_copy_81 : decode prog_7_method_21_code 81 = .ok (.istore_n 1, 1) := by decide +kernel
theorem d_M_copy_82 : decode prog_7_method_21_code 82 = .ok (.iload_n 1, 1) := by decide +kernel
theorem d_M_copy_83 : decode prog_7_method_21_code 83 = .ok (.iconst 4, 1) := by decide +kernel
theorem d_M_copy_84 : decode prog_7_method_21_code 84 = .ok (.if_icmp .ge 21, 3) := by decide +kernel
theorem d_M_copy_87 : decode prog_7_method_21_code 87 = .ok (.aload_n 0, 1) := by decide +kernel
theorem d_M_copy_88 : decode prog_7_method_21_code 88 = .ok (.getfield 70, 3) := by decide +kernel
theorem d_M_copy_91 : decode prog_7_method_21_code 91 = .ok (.iload_n 1, 1) := by decide +kernel
theorem d_M_copy_92 : decode prog_7_method_21_code 92 = .ok (.aload_n 0, 1) := by decide +kernel
theorem d_M_copy_93 : decode prog_7_method_21_code 93 = .ok (.getfield 67, 3) := by decide +kernel
theorem d_M_copy_96 : decode prog_7_method_21_code 96 = .ok (.iload_n 1, 1) := by decide +kernel
theorem d_M_copy_97 : decode prog_7_method_21_code 97 = .ok (.iaload, 1) := by decide +kernel
theorem d_M_copy_98 : decode prog_7_method_21_code 98 = .ok (.iastore, 1) := by decide +kernel
theorem d_M_copy_99 : decode prog_7_method_21_code 99 = .ok (.iinc 1 1, 3) := by decide +kernel
theorem d_M_copy_102 : decode prog_7_method_21_code 102 = .ok (.goto (-20), 3) := by decide +kernel
theorem d_M_copy_105 : decode prog_7_method_21_code 105 = .ok (.iconst 0, 1) := by decide +kernel
theorem d_M_copy_106 : decode prog_7_method_21_code 106 = .ok (.istore_n 1, 1) := by decide +kernel
theorem d_M_copy_107 : decode prog_7_method_21_code 107 = .ok (.iload_n 1, 1) := by decide +kernel
theorem d_M_copy_108 : decode prog_7_method_21_code 108 = .ok (.bipush 10, 2) := by decide +kernel
theorem d_M_copy_110 : decode prog_7_method_21_code 110 = .ok (.if_icmp .ge 21, 3) := by decide +kernel
theorem d_M_copy_113 : decode prog_7_method_21_code 113 = .ok (.aload_n 0, 1) := by decide +kernel
theorem d_M_copy_114 : decode prog_7_method_21_code 114 = .ok (.getfield 76, 3) := by decide +kernel
theorem d_M_copy_117 : decode prog_7_method_21_code 117 = .ok (.iload_n 1, 1) := by decide +kernel
theorem d_M_copy_118 : decode prog_7_method_21_code 118 = .ok (.aload_n 0, 1) := by decide +kernel
theorem d_M_copy_119 : decode prog_7_method_21_code 119 = .ok (.getfield 73, 3) := by decide +kernel
theorem d_M_copy_122 : decode prog_7_method_21_code 122 = .ok (.iload_n 1, 1) := by decide +kernel
theorem d_M_copy_123 : decode prog_7_method_21_code 123 = .ok (.iaload, 1) := by decide +kernel
theorem d_M_copy_124 : decode prog_7_method_21_code 124 = .ok (.iastore, 1) := by decide +kernel
theorem d_M_copy_125 : decode prog_7_method_21_code 125 = .ok (.iinc 1 1, 3) := by decide +kernel
theorem d_M_copy_128 : decode prog_7_method_21_code 128 = .ok (.goto (-21), 3) := by decide +kernel
theorem d_M_copy_131 : decode prog_7_method_21_code 131 = .ok (.return_, 1) := by decide +kernel
theorem d_M_isSame_0 : decode prog_7_method_22_code 0 = .ok (.iconst 1, 1) := by decide +kernel
theorem d_M_isSame_1 : decode prog_7_method_22_code 1 = .ok (.istore_n 1, 1) := by decide +kernel
theorem d_M_isSame_2 : decode prog_7_method_22_code 2 = .ok (.iconst 0, 1) := by decide +kernel
theorem d_M_isSame_3 : decode prog_7_method_22_code 3 = .ok (.istore_n 2, 1) := by decide +kernel
theorem d_M_isSame_4 : decode prog_7_method_22_code 4 = .ok (.iload_n 2, 1) := by decide +kernel
theorem d_M_isSame_5 : decode prog_7_method_22_code 5 = .ok (.sipush 1260, 3) := by decide +kernel
theorem d_M_isSame_8 : decode prog_7_method_22_code 8 = .ok (.if_icmp .ge 34, 3) := by decide +kernel
theorem d_M_isSame_11 : decode prog_7_method_22_code 11 = .ok (.iload_n 1, 1) := by decide +kernel
theorem d_M_isSame_12 : decode prog_7_method_22_code 12 = .ok (.ifCond .eq 22, 3) := by decide +kernel
theorem d_M_isSame_15 : decode prog_7_method_22_code 15 = .ok (.aload_n 0, 1) := by decide +kernel
theorem d_M_isSame_16 : decode prog_7_method_22_code 16 = .ok (.getfield 52, 3) := by decide +kernel
theorem d_M_isSame_19 : decode prog_7_method_22_code 19 = .ok (.iload_n 2, 1) := by decide +kernel
theorem d_M_isSame_20 : decode prog_7_method_22_code 20 = .ok (.iaload, 1) := by decide +kernel
theorem d_M_isSame_21 : decode prog_7_method_22_code 21 = .ok (.aload_n 0, 1) := by decide +kernel
theorem d_M_isSame_22 : decode prog_7_method_22_code 22 = .ok (.getfield 49, 3) := by decide +kernel
theorem d_M_isSame_25 : decode prog_7_method_22_code 25 = .ok (.iload_n 2, 1) := by decide +kernel
theorem d_M_isSame_26 : decode prog_7_method_22_code 26 = .ok (.iaload, 1) := by decide +kernel
theorem d_M_isSame_27 : decode prog_7_method_22_code 27 = .ok (.if_icmp .ne 7, 3) := by decide +kernel
theorem d_M_isSame_30 : decode prog_7_method_22_code 30 = .ok (.iconst 1, 1) := by decide +kernel
theorem d_M_isSame_31 : decode prog_7_method_22_code 31 = .ok (.goto 4, 3) := by decide +kernel
theorem d_M_isSame_34 : decode prog_7_method_22_code 34 = .ok (.iconst 0, 1) := by decide +kernel
theorem d_M_isSame_35 : decode prog_7_method_22_code 35 = .ok (.istore_n 1, 1) := by decide +kernel
theorem d_M_isSame_36 : decode prog_7_method_22_code 36 = .ok (.iinc 2 1, 3) := by decide +kernel
theorem d_M_isSame_39 : decode prog_7_method_22_code 39 = .ok (.goto (-35), 3) := by decide +kernel
theorem d_M_isSame_42 : decode prog_7_method_22_code 42 = .ok (.iconst 0, 1) := by decide +kernel
theorem d_M_isSame_43 : decode prog_7_method_22_code 43 = .ok (.istore_n 2, 1) := by decide +kernel
theorem d_M_isSame_44 : decode prog_7_method_22_code 44 = .ok (.iload_n 2, 1) := by decide +kernel
theorem d_M_isSame_45 : decode prog_7_method_22_code 45 = .ok (.sipush 160, 3) := by decide +kernel
theorem d_M_isSame_48 : decode prog_7_method_22_code 48 = .ok (.if_icmp .ge 34, 3) := by decide +kernel
theorem d_M_isSame_51 : decode prog_7_method_22_code 51 = .ok (.iload_n 1, 1) := by decide +kernel
theorem d_M_isSame_52 : decode prog_7_method_22_code 52 = .ok (.ifCond .eq 22, 3) := by decide +kernel
theorem d_M_isSame_55 : decode prog_7_method_22_code 55 = .ok (.aload_n 0, 1) := by decide +kernel
theorem d_M_isSame_56 : decode prog_7_method_22_code 56 = .ok (.getfield 58, 3) := by decide +kernel
theorem d_M_isSame_59 : decode prog_7_method_22_code 59 = .ok (.iload_n 2, 1) := by decide +kernel
theorem d_M_isSame_60 : decode prog_7_method_22_code 60 = .ok (.iaload, 1) := by decide +kernel
theorem d_M_isSame_61 : decode prog_7_method_22_code 61 = .ok (.aload_n 0, 1) := by decide +kernel
theorem d_M_isSame_62 : decode prog_7_method_22_code 62 = .ok (.getfield 55, 3) := by decide +kernel
theorem d_M_isSame_65 : decode prog_7_method_22_code 65 = .ok (.iload_n 2, 1) := by decide +kernel
theorem d_M_isSame_66 : decode prog_7_method_22_code 66 = .ok (.iaload, 1) := by decide +kernel
theorem d_M_isSame_67 : decode prog_7_method_22_code 67 = .ok (.if_icmp .ne 7, 3) := by decide +kernel
theorem d_M_isSame_70 : decode prog_7_method_22_code 70 = .ok (.iconst 1, 1) := by decide +kernel
theorem d_M_isSame_71 : decode prog_7_method_22_code 71 = .ok (.goto 4, 3) := by decide +kernel
theorem d_M_isSame_74 : decode prog_7_method_22_code 74 = .ok (.iconst 0, 1) := by decide +kernel
theorem d_M_isSame_75 : decode prog_7_method_22_code 75 = .ok (.istore_n 1, 1) := by decide +kernel
theorem d_M_isSame_76 : decode prog_7_method_22_code 76 = .ok (.iinc 2 1, 3) := by decide +kernel
theorem d_M_isSame_79 : decode prog_7_method_22_code 79 = .ok (.goto (-35), 3) := by decide +kernel
theorem d_M_isSame_82 : decode prog_7_method_22_code 82 = .ok (.iconst 0, 1) := by decide +kernel
theorem d_M_isSame_83 : decode prog_7_method_22_code 83 = .ok (.istore_n 2, 1) := by decide +kernel
theorem d_M_isSame_84 : decode prog_7_method_22_code 84 = .ok (.iload_n 2, 1) := by decide +kernel
theorem d_M_isSame_85 : decode prog_7_method_22_code 85 = .ok (.bipush 20, 2) := by decide +kernel
theorem d_M_isSame_87 : decode prog_7_method_22_code 87 = .ok (.if_icmp .ge 34, 3) := by decide +kernel
theorem d_M_isSame_90 : decode prog_7_method_22_code 90 = .ok (.iload_n 1, 1) := by decide +kernel
theorem d_M_isSame_91 : decode prog_7_method_22_code 91 = .ok (.ifCond .eq 22, 3) := by decide +kernel
theorem d_M_isSame_94 : decode prog_7_method_22_code 94 = .ok (.aload_n 0, 1) := by decide +kernel
theorem d_M_isSame_95 : decode prog_7_method_22_code 95 = .ok (.getfield 64, 3) := by decide +kernel
theorem d_M_isSame_98 : decode prog_7_method_22_code 98 = .ok (.iload_n 2, 1) := by decide +kernel
theorem d_M_isSame_99 : decode prog_7_method_22_code 99 = .ok (.iaload, 1) := by decide +kernel
theorem d_M_isSame_100 : decode prog_7_method_22_code 100 = .ok (.aload_n 0, 1) := by decide +kernel
theorem d_M_isSame_101 : decode prog_7_method_22_code 101 = .ok (.getfield 61, 3) := by decide +kernel
theorem d_M_isSame_104 : decode prog_7_method_22_code 104 = .ok (.iload_n 2, 1) := by decide +kernel
theorem d_M_isSame_105 : decode prog_7_method_22_code 105 = .ok (.iaload, 1) := by decide +kernel
theorem d_M_isSame_106 : decode prog_7_method_22_code 106 = .ok (.if_icmp .ne 7, 3) := by decide +kernel
theorem d_M_isSame_109 : decode prog_7_method_22_code 109 = .ok (.iconst 1, 1) := by decide +kernel
theorem d_M_isSame_110 : decode prog_7_method_22_code 110 = .ok (.goto 4, 3) := by decide +kernel
theorem d_M_isSame_113 : decode prog_7_method_22_code 113 = .ok (.iconst 0, 1) := by decide +kernel
theorem d_M_isSame_114 : decode prog_7_method_22_code 114 = .ok (.istore_n 1, 1) := by decide +kernel
theorem d_M_isSame_115 : decode prog_7_method_22_code 115 = .ok (.iinc 2 1, 3) := by decide +kernel
theorem d_M_isSame_118 : decode prog_7_method_22_code 118 = .ok (.goto (-34), 3) := by decide +kernel
theorem d_M_isSame_121 : decode prog_7_method_22_code 121 = .ok (.iconst 0, 1) := by decide +kernel
theorem d_M_isSame_122 : decode prog_7_method_22_code 122 = .ok (.istore_n 2, 1) := by decide +kernel
theorem d_M_isSame_123 : decode prog_7_method_22_code 123 = .ok (.iload_n 2, 1) := by decide +kernel
theorem d_M_isSame_124 : decode prog_7_method_22_code 124 = .ok (.iconst 4, 1) := by decide +kernel
theorem d_M_isSame_125 : decode prog_7_method_22_code 125 = .ok (.if_icmp .ge 34, 3) := by decide +kernel
theorem d_M_isSame_128 : decode prog_7_method_22_code 128 = .ok (.iload_n 1, 1) := by decide +kernel
theorem d_M_isSame_129 : decode prog_7_method_22_code 129 = .ok (.ifCond .eq 22, 3) := by decide +kernel
theorem d_M_isSame_132 : decode prog_7_method_22_code 132 = .ok (.aload_n 0, 1) := by decide +kernel
theorem d_M_isSame_133 : decode prog_7_method_22_code 133 = .ok (.getfield 70, 3) := by decide +kernel
theorem d_M_isSame_136 : decode prog_7_method_22_code 136 = .ok (.iload_n 2, 1) := by decide +kernel
theorem d_M_isSame_137 : decode prog_7_method_22_code 137 = .ok (.iaload, 1) := by decide +kernel
theorem d_M_isSame_138 : decode prog_7_method_22_code 138 = .ok (.aload_n 0, 1) := by decide +kernel
theorem d_M_isSame_139 : decode prog_7_method_22_code 139 = .ok (.getfield 67, 3) := by decide +kernel
theorem d_M_isSame_142 : decode prog_7_method_22_code 142 = .ok (.iload_n 2, 1) := by decide +kernel
theorem d_M_isSame_143 : decode prog_7_method_22_code 143 = .ok (.iaload, 1) := by decide +kernel
theorem d_M_isSame_144 : decode prog_7_method_22_code 144 = .ok (.if_icmp .ne 7, 3) := by decide +kernel
theorem d_M_isSame_147 : decode prog_7_method_22_code 147 = .ok (.iconst 1, 1) := by decide +kernel
theorem d_M_isSame_148 : decode prog_7_method_22_code 148 = .ok (.goto 4, 3) := by decide +kernel
theorem d_M_isSame_151 : decode prog_7_method_22_code 151 = .ok (.iconst 0, 1) := by decide +kernel
theorem d_M_isSame_152 : decode prog_7_method_22_code 152 = .ok (.istore_n 1, 1) := by decide +kernel
theorem d_M_isSame_153 : decode prog_7_method_22_code 153 = .ok (.iinc 2 1, 3) := by decide +kernel
theorem d_M_isSame_156 : decode prog_7_method_22_code 156 = .ok (.goto (-33), 3) := by decide +kernel
theorem d_M_isSame_159 : decode prog_7_method_22_code 159 = .ok (.iconst 0, 1) := by decide +kernel
theorem d_M_isSame_160 : decode prog_7_method_22_code 160 = .ok (.istore_n 2, 1) := by decide +kernel
theorem d_M_isSame_161 : decode prog_7_method_22_code 161 = .ok (.iload_n 2, 1) := by decide +kernel
theorem d_M_isSame_162 : decode prog_7_method_22_code 162 = .ok (.bipush 10, 2) := by decide +kernel
theorem d_M_isSame_164 : decode prog_7_method_22_code 164 = .ok (.if_icmp .ge 34, 3) := by decide +kernel
theorem d_M_isSame_167 : decode prog_7_method_22_code 167 = .ok (.iload_n 1, 1) := by decide +kernel
theorem d_M_isSame_168 : decode prog_7_method_22_code 168 = .ok (.ifCond .eq 22, 3) := by decide +kernel
theorem d_M_isSame_171 : decode prog_7_method_22_code 171 = .ok (.aload_n 0, 1) := by decide +kernel
theorem d_M_isSame_172 : decode prog_7_method_22_code 172 = .ok (.getfield 76, 3) := by decide +kernel
theorem d_M_isSame_175 : decode prog_7_method_22_code 175 = .ok (.iload_n 2, 1) := by decide +kernel
theorem d_M_isSame_176 : decode prog_7_method_22_code 176 = .ok (.iaload, 1) := by decide +kernel
theorem d_M_isSame_177 : decode prog_7_method_22_code 177 = .ok (.aload_n 0, 1) := by decide +kernel
theorem d_M_isSame_178 : decode prog_7_method_22_code 178 = .ok (.getfield 73, 3) := by decide +kernel
theorem d_M_isSame_181 : decode prog_7_method_22_code 181 = .ok (.iload_n 2, 1) := by decide +kernel
theorem d_M_isSame_182 : decode prog_7_method_22_code 182 = .ok (.iaload, 1) := by decide +kernel
theorem d_M_isSame_183 : decode prog_7_method_22_code 183 = .ok (.if_icmp .ne 7, 3) := by decide +kernel
theorem d_M_isSame_186 : decode prog_7_method_22_code 186 = .ok (.iconst 1, 1) := by decide +kernel
theorem d_M_isSame_187 : decode prog_7_method_22_code 187 = .ok (.goto 4, 3) := by decide +kernel
theorem d_M_isSame_190 : decode prog_7_method_22_code 190 = .ok (.iconst 0, 1) := by decide +kernel
theorem d_M_isSame_191 : decode prog_7_method_22_code 191 = .ok (.istore_n 1, 1) := by decide +kernel
theorem d_M_isSame_192 : decode prog_7_method_22_code 192 = .ok (.iinc 2 1, 3) := by decide +kernel
theorem d_M_isSame_195 : decode prog_7_method_22_code 195 = .ok (.goto (-34), 3) := by decide +kernel
theorem d_M_isSame_198 : decode prog_7_method_22_code 198 = .ok (.iload_n 1, 1) := by decide +kernel
theorem d_M_isSame_199 : decode prog_7_method_22_code 199 = .ok (.ireturn, 1) := by decide +kernel
theorem r_M_field_0 {Q : Option mV → mS → Prop} {σ : mS} {x1 : Int32} (h : MU M_M_isClass [.inr (25, 0), .inl x1] σ (fun r s1 => ∃ r3, r = some (.inl r3) ∧ ((¬ r3 = (0 : Int32) → ((¬ (s1 25 2) = (nI 8) → (vp_in (s1 25 2) 8 ∧ (∀ t4, t4 = (m_up s1 27 (s1 25 2).toNatClampNeg x1) → (MU M_M_change [.inr (25, 0)] (m_up t4 25 2 ((t4 25 2) + (1 : Int32))) (fun r s6 => r = none ∧ (Q (some (.inl ((s6 25 2) - (1 : Int32)))) s6)))))) ∧ ((s1 25 2) = (nI 8) → (Q (some (.inl (-nI 4))) s1)))) ∧ (r3 = (0 : Int32) → (Q (some (.inl (-1 : Int32))) s1))))) : J M_M_field Q 0 [some (.inr (25, 0)), some (.inl x1)] [] σ :=
  J_aload_n (i := 0) rfl rfl d_M_field_0 <|
  J_iload_n (i := 1) rfl rfl d_M_field_1 <|
  kM_137_i rfl rfl rfl (args := [.inl x1]) (h) d_M_field_2 (fun r3 s1 h2 =>
  J_if_ne (tgt := 10) d_M_field_5 (by decide) (fun c9 =>
  J_aload_n (i := 0) rfl rfl d_M_field_10 <|
  gM_113 rfl d_M_field_11 <|
  J_bipush (v := (nI 8)) d_M_field_14 (by decide) <|
  J_icmp_ne (tgt := 22) d_M_field_16 (by decide) (fun c8 =>
  J_aload_n (i := 0) rfl rfl d_M_field_22 <|
  gM_13 rfl d_M_field_23 <|
  J_aload_n (i := 0) rfl rfl d_M_field_26 <|
  gM_113 rfl d_M_field_27 <|
  J_iload_n (i := 1) rfl rfl d_M_field_30 <|
  J_iast (((((h2).1 c9)).1 c8)).1 d_M_field_31 <|
  J_names (fun t4 et4 =>
  J_aload_n (i := 0) rfl rfl d_M_field_32 <|
  J_dup d_M_field_33 <|
  gM_113 rfl d_M_field_34 <|
  J_iconst (v := (1 : Int32)) d_M_field_37 (by decide) <|
  J_iadd d_M_field_38 <|
  pM_113 rfl d_M_field_39 <|
  J_aload_n (i := 0) rfl rfl d_M_field_42 <|
  kM_134_v rfl rfl rfl (args := []) ((((((((h2).1 c9)).1 c8)).2) t4 et4)) d_M_field_43 (fun s6 h7 =>
  J_aload_n (i := 0) rfl rfl d_M_field_46 <|
  gM_113 rfl d_M_field_47 <|
  J_iconst (v := (1 : Int32)) d_M_field_50 (by decide) <|
  J_isub d_M_field_51 <|
  J_iret rfl d_M_field_52 (h7)))) (fun c8 =>
  J_bipush (v := (-nI 4)) d_M_field_19 (by decide) <|
  J_iret rfl d_M_field_21 (((((h2).1 c9)).2 c8)))) (fun c9 =>
  J_iconst (v := (-1 : Int32)) d_M_field_8 (by decide) <|
  J_iret rfl d_M_field_9 (((h2).2 c9))))
theorem r_M_method_0 {Q : Option mV → mS → Prop} {σ : mS} {x1 x2 : Int32} (h : MU M_M_isClass [.inr (25, 0), .inl x1] σ (fun r s1 => ∃ r3, r = some (.inl r3) ∧ ((¬ r3 = (0 : Int32) → ((x2 < (0 : Int32) → (Q (some (.inl (-nI 2))) s1)) ∧ (¬ x2 < (0 : Int32) → ((x2 ≤ (nI 3) → (MU M_M_methodWith [.inr (25, 0), .inl x1, .inl x2] s1 (fun r s4 => ∃ r6, r = some (.inl r6) ∧ ((r6 < (0 : Int32) → ((¬ (s4 25 4) = (nI 10) → (vp_in (s4 25 4) 10 ∧ (∀ t7, t7 = (m_up s4 28 (s4 25 4).toNatClampNeg x1) → (vp_in (t7 25 4) 10 ∧ (∀ t8, t8 = (m_up t7 29 (t7 25 4).toNatClampNeg x2) → (MU M_M_change [.inr (25, 0)] (m_up t8 25 4 ((t8 25 4) + (1 : Int32))) (fun r s10 => r = none ∧ (Q (some (.inl ((s10 25 4) - (1 : Int32)))) s10)))))))) ∧ ((s4 25 4) = (nI 10) → (Q (some (.inl (-nI 4))) s4)))) ∧ (¬ r6 < (0 : Int32) → (Q (some (.inl (-nI 3))) s4)))))) ∧ (¬ x2 ≤ (nI 3) → (Q (some (.inl (-nI 2))) s1)))))) ∧ (r3 = (0 : Int32) → (Q (some (.inl (-1 : Int32))) s1))))) : J M_M_method Q 0 [some (.inr (25, 0)), some (.inl x1), some (.inl x2)] [] σ :=
  J_aload_n (i := 0) rfl rfl d_M_method_0 <|
  J_iload_n (i := 1) rfl rfl d_M_method_1 <|
  kM_137_i rfl rfl rfl (args := [.inl x1]) (h) d_M_method_2 (fun r3 s1 h2 =>
  J_if_ne (tgt := 10) d_M_method_5 (by decide) (fun c16 =>
  J_iload_n (i := 2) rfl rfl d_M_method_10 <|
  J_if_lt (tgt := 19) d_M_method_11 (by decide) (fun c15 =>
  J_bipush (v := (-nI 2)) d_M_method_19 (by decide) <|
  J_iret rfl d_M_method_21 (((((h2).1 c16)).1 c15))) (fun c15 =>
  J_iload_n (i := 2) rfl rfl d_M_method_14 <|
  J_iconst (v := (nI 3)) d_M_method_15 (by decide) <|
  J_icmp_le (tgt := 22) d_M_method_16 (by decide) (fun c14 =>
  J_aload_n (i := 0) rfl rfl d_M_method_22 <|
  J_iload_n (i := 1) rfl rfl d_M_method_23 <|
  J_iload_n (i := 2) rfl rfl d_M_method_24 <|
  kM_123_i rfl rfl rfl (args := [.inl x1, .inl x2]) (((((((h2).1 c16)).2 c15)).1 c14)) d_M_method_25 (fun r6 s4 h5 =>
  J_if_lt (tgt := 34) d_M_method_28 (by decide) (fun c13 =>
  J_aload_n (i := 0) rfl rfl d_M_method_34 <|
  gM_116 rfl d_M_method_35 <|
  J_bipush (v := (nI 10)) d_M_method_38 (by decide) <|
  J_icmp_ne (tgt := 46) d_M_method_40 (by decide) (fun c12 =>
  J_aload_n (i := 0) rfl rfl d_M_method_46 <|
  gM_16 rfl d_M_method_47 <|
  J_aload_n (i := 0) rfl rfl d_M_method_50 <|
  gM_116 rfl d_M_method_51 <|
  J_iload_n (i := 1) rfl rfl d_M_method_54 <|
  J_iast (((((h5).1 c13)).1 c12)).1 d_M_method_55 <|
  J_names (fun t7 et7 =>
  J_aload_n (i := 0) rfl rfl d_M_method_56 <|
  gM_19 rfl d_M_method_57 <|
  J_aload_n (i := 0) rfl rfl d_M_method_60 <|
  gM_116 rfl d_M_method_61 <|
  J_iload_n (i := 2) rfl rfl d_M_method_64 <|
  J_iast ((((((((h5).1 c13)).1 c12)).2) t7 et7)).1 d_M_method_65 <|
  J_names (fun t8 et8 =>
  J_aload_n (i := 0) rfl rfl d_M_method_66 <|
  J_dup d_M_method_67 <|
  gM_116 rfl d_M_method_68 <|
  J_iconst (v := (1 : Int32)) d_M_method_71 (by decide) <|
  J_iadd d_M_method_72 <|
  pM_116 rfl d_M_method_73 <|
  J_aload_n (i := 0) rfl rfl d_M_method_76 <|
  kM_134_v rfl rfl rfl (args := []) (((((((((((h5).1 c13)).1 c12)).2) t7 et7)).2) t8 et8)) d_M_method_77 (fun s10 h11 =>
  J_aload_n (i := 0) rfl rfl d_M_method_80 <|
  gM_116 rfl d_M_method_81 <|
  J_iconst (v := (1 : Int32)) d_M_method_84 (by decide) <|
  J_isub d_M_method_85 <|
  J_iret rfl d_M_method_86 (h11))))) (fun c12 =>
  J_bipush (v := (-nI 4)) d_M_method_43 (by decide) <|
  J_iret rfl d_M_method_45 (((((h5).1 c13)).2 c12)))) (fun c13 =>
  J_bipush (v := (-nI 3)) d_M_method_31 (by decide) <|
  J_iret rfl d_M_method_33 (((h5).2 c13))))) (fun c14 =>
  J_bipush (v := (-nI 2)) d_M_method_19 (by decide) <|
  J_iret rfl d_M_method_21 (((((((h2).1 c16)).2 c15)).2 c14))))) (fun c16 =>
  J_iconst (v := (-1 : Int32)) d_M_method_8 (by decide) <|
  J_iret rfl d_M_method_9 (((h2).2 c16))))
theorem r_M_isGood_0 {Q : Option mV → mS → Prop} {σ : mS} {x1 x2 x3 x4 x5 x6 : Int32} (h : (x1 = (0 : Int32) → (MU M_M_isName [.inl x2] σ (fun r s1 => ∃ r3, r = some (.inl r3) ∧ ((r3 = (0 : Int32) → (Q (some (.inl (0 : Int32))) s1)) ∧ (¬ r3 = (0 : Int32) → (MU M_M_isClass [.inr (25, 0), .inl x3] s1 (fun r s4 => ∃ r6, r = some (.inl r6) ∧ ((r6 = (0 : Int32) → (Q (some (.inl (0 : Int32))) s4)) ∧ (¬ r6 = (0 : Int32) → (Q (some (.inl (1 : Int32))) s4)))))))))) ∧ (x1 = (nI 2) → (MU M_M_isName [.inl x2] σ (fun r s9 => ∃ r11, r = some (.inl r11) ∧ ((r11 = (0 : Int32) → (Q (some (.inl (0 : Int32))) s9)) ∧ (¬ r11 = (0 : Int32) → (MU M_M_isName [.inl x3] s9 (fun r s12 => ∃ r14, r = some (.inl r14) ∧ ((r14 = (0 : Int32) → (Q (some (.inl (0 : Int32))) s12)) ∧ (¬ r14 = (0 : Int32) → (MU M_M_isField [.inr (25, 0), .inl x4] s12 (fun r s15 => ∃ r17, r = some (.inl r17) ∧ ((r17 = (0 : Int32) → (Q (some (.inl (0 : Int32))) s15)) ∧ (¬ r17 = (0 : Int32) → (Q (some (.inl (1 : Int32))) s15)))))))))))))) ∧ (x1 = (nI 3) → (MU M_M_isName [.inl x2] σ (fun r s21 => ∃ r23, r = some (.inl r23) ∧ ((r23 = (0 : Int32) → (Q (some (.inl (0 : Int32))) s21)) ∧ (¬ r23 = (0 : Int32) → (MU M_M_isName [.inl x3] s21 (fun r s24 => ∃ r26, r = some (.inl r26) ∧ ((r26 = (0 : Int32) → (Q (some (.inl (0 : Int32))) s24)) ∧ (¬ r26 = (0 : Int32) → (MU M_M_isField [.inr (25, 0), .inl x4] s24 (fun r s27 => ∃ r29, r = some (.inl r29) ∧ ((r29 = (0 : Int32) → (Q (some (.inl (0 : Int32))) s27)) ∧ (¬ r29 = (0 : Int32) → (Q (some (.inl (1 : Int32))) s27)))))))))))))) ∧ (x1 = (nI 4) → (MU M_M_isName [.inl x2] σ (fun r s33 => ∃ r35, r = some (.inl r35) ∧ ((r35 = (0 : Int32) → (Q (some (.inl (0 : Int32))) s33)) ∧ (¬ r35 = (0 : Int32) → (MU M_M_isName [.inl x3] s33 (fun r s36 => ∃ r38, r = some (.inl r38) ∧ ((r38 = (0 : Int32) → (Q (some (.inl (0 : Int32))) s36)) ∧ (¬ r38 = (0 : Int32) → (MU M_M_isClass [.inr (25, 0), .inl x4] s36 (fun r s39 => ∃ r41, r = some (.inl r41) ∧ ((r41 = (0 : Int32) → (Q (some (.inl (0 : Int32))) s39)) ∧ (¬ r41 = (0 : Int32) → (Q (some (.inl (1 : Int32))) s39)))))))))))))) ∧ (x1 = (nI 5) → (MU M_M_isName [.inl x2] σ (fun r s45 => ∃ r47, r = some (.inl r47) ∧ ((r47 = (0 : Int32) → (Q (some (.inl (0 : Int32))) s45)) ∧ (¬ r47 = (0 : Int32) → (MU M_M_isStatic [.inl x3] s45 (fun r s48 => ∃ r50, r = some (.inl r50) ∧ ((r50 = (0 : Int32) → (Q (some (.inl (0 : Int32))) s48)) ∧ (¬ r50 = (0 : Int32) → (Q (some (.inl (1 : Int32))) s48)))))))))) ∧ (x1 = (nI 6) → (MU M_M_isStatic [.inl x2] σ (fun r s53 => ∃ r55, r = some (.inl r55) ∧ ((r55 = (0 : Int32) → (Q (some (.inl (0 : Int32))) s53)) ∧ (¬ r55 = (0 : Int32) → (MU M_M_isName [.inl x3] s53 (fun r s56 => ∃ r58, r = some (.inl r58) ∧ ((r58 = (0 : Int32) → (Q (some (.inl (0 : Int32))) s56)) ∧ (¬ r58 = (0 : Int32) → (Q (some (.inl (1 : Int32))) s56)))))))))) ∧ (x1 = (nI 7) → (MU M_M_isName [.inl x2] σ (fun r s61 => ∃ r63, r = some (.inl r63) ∧ ((r63 = (0 : Int32) → (Q (some (.inl (0 : Int32))) s61)) ∧ (¬ r63 = (0 : Int32) → (MU M_M_isName [.inl x3] s61 (fun r s64 => ∃ r66, r = some (.inl r66) ∧ ((r66 = (0 : Int32) → (Q (some (.inl (0 : Int32))) s64)) ∧ (¬ r66 = (0 : Int32) → (MU M_M_isName [.inl x5] s64 (fun r s67 => ∃ r69, r = some (.inl r69) ∧ ((r69 = (0 : Int32) → (Q (some (.inl (0 : Int32))) s67)) ∧ (¬ r69 = (0 : Int32) → (MU M_M_isName [.inl x6] s67 (fun r s70 => ∃ r72, r = some (.inl r72) ∧ ((r72 = (0 : Int32) → (Q (some (.inl (0 : Int32))) s70)) ∧ (¬ r72 = (0 : Int32) → (Q (some (.inl (1 : Int32))) s70)))))))))))))))))) ∧ (¬ x1 = (0 : Int32) → ¬ x1 = (nI 2) → ¬ x1 = (nI 3) → ¬ x1 = (nI 4) → ¬ x1 = (nI 5) → ¬ x1 = (nI 6) → ¬ x1 = (nI 7) → (MU M_M_isName [.inl x2] σ (fun r s77 => ∃ r79, r = some (.inl r79) ∧ ((r79 = (0 : Int32) → (Q (some (.inl (0 : Int32))) s77)) ∧ (¬ r79 = (0 : Int32) → (MU M_M_isName [.inl x3] s77 (fun r s80 => ∃ r82, r = some (.inl r82) ∧ ((r82 = (0 : Int32) → (Q (some (.inl (0 : Int32))) s80)) ∧ (¬ r82 = (0 : Int32) → (Q (some (.inl (1 : Int32))) s80))))))))))) : J M_M_isGood Q 0 [some (.inr (25, 0)), some (.inl x1), some (.inl x2), some (.inl x3), some (.inl x4), some (.inl x5), some (.inl x6)] [] σ :=
  J_iload_n (i := 1) rfl rfl d_M_isGood_0 <|
  Classical.byCases (p := x1 = (0 : Int32)) (fun c85 => J_tabIn (tgt := 48) c85 d_M_isGood_1 (by decide) (by decide) rfl (by decide) <|
  J_iload_n (i := 2) rfl rfl d_M_isGood_48 <|
  kM_141_i rfl rfl rfl (args := [.inl x2]) (((h).1 c85)) d_M_isGood_49 (fun r3 s1 h2 =>
  J_if_eq (tgt := 67) d_M_isGood_52 (by decide) (fun c8 =>
  J_iconst (v := (0 : Int32)) d_M_isGood_67 (by decide) <|
  J_zret rfl (Or.inl rfl) d_M_isGood_68 (((h2).1 c8))) (fun c8 =>
  J_aload_n (i := 0) rfl rfl d_M_isGood_55 <|
  J_iload_n (i := 3) rfl rfl d_M_isGood_56 <|
  kM_137_i rfl rfl rfl (args := [.inl x3]) (((h2).2 c8)) d_M_isGood_57 (fun r6 s4 h5 =>
  J_if_eq (tgt := 67) d_M_isGood_60 (by decide) (fun c7 =>
  J_iconst (v := (0 : Int32)) d_M_isGood_67 (by decide) <|
  J_zret rfl (Or.inl rfl) d_M_isGood_68 (((h5).1 c7))) (fun c7 =>
  J_iconst (v := (1 : Int32)) d_M_isGood_63 (by decide) <|
  J_goto (tgt := 68) d_M_isGood_64 (by decide) <|
  J_zret rfl (Or.inr rfl) d_M_isGood_68 (((h5).2 c7))))))) <| fun c85_0 =>
  Classical.byCases (p := x1 = (nI 2)) (fun c85 => J_tabIn (tgt := 69) c85 d_M_isGood_1 (by decide) (by decide) rfl (by decide) <|
  J_iload_n (i := 2) rfl rfl d_M_isGood_69 <|
  kM_141_i rfl rfl rfl (args := [.inl x2]) ((((h).2).1 c85)) d_M_isGood_70 (fun r11 s9 h10 =>
  J_if_eq (tgt := 96) d_M_isGood_73 (by decide) (fun c20 =>
  J_iconst (v := (0 : Int32)) d_M_isGood_96 (by decide) <|
  J_zret rfl (Or.inl rfl) d_M_isGood_97 (((h10).1 c20))) (fun c20 =>
  J_iload_n (i := 3) rfl rfl d_M_isGood_76 <|
  kM_141_i rfl rfl rfl (args := [.inl x3]) (((h10).2 c20)) d_M_isGood_77 (fun r14 s12 h13 =>
  J_if_eq (tgt := 96) d_M_isGood_80 (by decide) (fun c19 =>
  J_iconst (v := (0 : Int32)) d_M_isGood_96 (by decide) <|
  J_zret rfl (Or.inl rfl) d_M_isGood_97 (((h13).1 c19))) (fun c19 =>
  J_aload_n (i := 0) rfl rfl d_M_isGood_83 <|
  J_iload (i := 4) rfl d_M_isGood_84 <|
  kM_144_i rfl rfl rfl (args := [.inl x4]) (((h13).2 c19)) d_M_isGood_86 (fun r17 s15 h16 =>
  J_if_eq (tgt := 96) d_M_isGood_89 (by decide) (fun c18 =>
  J_iconst (v := (0 : Int32)) d_M_isGood_96 (by decide) <|
  J_zret rfl (Or.inl rfl) d_M_isGood_97 (((h16).1 c18))) (fun c18 =>
  J_iconst (v := (1 : Int32)) d_M_isGood_92 (by decide) <|
  J_goto (tgt := 97) d_M_isGood_93 (by decide) <|
  J_zret rfl (Or.inr rfl) d_M_isGood_97 (((h16).2 c18))))))))) <| fun c85_1 =>
  Classical.byCases (p := x1 = (nI 3)) (fun c85 => J_tabIn (tgt := 69) c85 d_M_isGood_1 (by decide) (by decide) rfl (by decide) <|
  J_iload_n (i := 2) rfl rfl d_M_isGood_69 <|
  kM_141_i rfl rfl rfl (args := [.inl x2]) (((((h).2).2).1 c85)) d_M_isGood_70 (fun r23 s21 h22 =>
  J_if_eq (tgt := 96) d_M_isGood_73 (by decide) (fun c32 =>
  J_iconst (v := (0 : Int32)) d_M_isGood_96 (by decide) <|
  J_zret rfl (Or.inl rfl) d_M_isGood_97 (((h22).1 c32))) (fun c32 =>
  J_iload_n (i := 3) rfl rfl d_M_isGood_76 <|
  kM_141_i rfl rfl rfl (args := [.inl x3]) (((h22).2 c32)) d_M_isGood_77 (fun r26 s24 h25 =>
  J_if_eq (tgt := 96) d_M_isGood_80 (by decide) (fun c31 =>
  J_iconst (v := (0 : Int32)) d_M_isGood_96 (by decide) <|
  J_zret rfl (Or.inl rfl) d_M_isGood_97 (((h25).1 c31))) (fun c31 =>
  J_aload_n (i := 0) rfl rfl d_M_isGood_83 <|
  J_iload (i := 4) rfl d_M_isGood_84 <|
  kM_144_i rfl rfl rfl (args := [.inl x4]) (((h25).2 c31)) d_M_isGood_86 (fun r29 s27 h28 =>
  J_if_eq (tgt := 96) d_M_isGood_89 (by decide) (fun c30 =>
  J_iconst (v := (0 : Int32)) d_M_isGood_96 (by decide) <|
  J_zret rfl (Or.inl rfl) d_M_isGood_97 (((h28).1 c30))) (fun c30 =>
  J_iconst (v := (1 : Int32)) d_M_isGood_92 (by decide) <|
  J_goto (tgt := 97) d_M_isGood_93 (by decide) <|
  J_zret rfl (Or.inr rfl) d_M_isGood_97 (((h28).2 c30))))))))) <| fun c85_2 =>
  Classical.byCases (p := x1 = (nI 4)) (fun c85 => J_tabIn (tgt := 98) c85 d_M_isGood_1 (by decide) (by decide) rfl (by decide) <|
  J_iload_n (i := 2) rfl rfl d_M_isGood_98 <|
  kM_141_i rfl rfl rfl (args := [.inl x2]) ((((((h).2).2).2).1 c85)) d_M_isGood_99 (fun r35 s33 h34 =>
  J_if_eq (tgt := 125) d_M_isGood_102 (by decide) (fun c44 =>
  J_iconst (v := (0 : Int32)) d_M_isGood_125 (by decide) <|
  J_zret rfl (Or.inl rfl) d_M_isGood_126 (((h34).1 c44))) (fun c44 =>
  J_iload_n (i := 3) rfl rfl d_M_isGood_105 <|
  kM_141_i rfl rfl rfl (args := [.inl x3]) (((h34).2 c44)) d_M_isGood_106 (fun r38 s36 h37 =>
  J_if_eq (tgt := 125) d_M_isGood_109 (by decide) (fun c43 =>
  J_iconst (v := (0 : Int32)) d_M_isGood_125 (by decide) <|
  J_zret rfl (Or.inl rfl) d_M_isGood_126 (((h37).1 c43))) (fun c43 =>
  J_aload_n (i := 0) rfl rfl d_M_isGood_112 <|
  J_iload (i := 4) rfl d_M_isGood_113 <|
  kM_137_i rfl rfl rfl (args := [.inl x4]) (((h37).2 c43)) d_M_isGood_115 (fun r41 s39 h40 =>
  J_if_eq (tgt := 125) d_M_isGood_118 (by decide) (fun c42 =>
  J_iconst (v := (0 : Int32)) d_M_isGood_125 (by decide) <|
  J_zret rfl (Or.inl rfl) d_M_isGood_126 (((h40).1 c42))) (fun c42 =>
  J_iconst (v := (1 : Int32)) d_M_isGood_121 (by decide) <|
  J_goto (tgt := 126) d_M_isGood_122 (by decide) <|
  J_zret rfl (Or.inr rfl) d_M_isGood_126 (((h40).2 c42))))))))) <| fun c85_3 =>
  Classical.byCases (p := x1 = (nI 5)) (fun c85 => J_tabIn (tgt := 127) c85 d_M_isGood_1 (by decide) (by decide) rfl (by decide) <|
  J_iload_n (i := 2) rfl rfl d_M_isGood_127 <|
  kM_141_i rfl rfl rfl (args := [.inl x2]) (((((((h).2).2).2).2).1 c85)) d_M_isGood_128 (fun r47 s45 h46 =>
  J_if_eq (tgt := 145) d_M_isGood_131 (by decide) (fun c52 =>
  J_iconst (v := (0 : Int32)) d_M_isGood_145 (by decide) <|
  J_zret rfl (Or.inl rfl) d_M_isGood_146 (((h46).1 c52))) (fun c52 =>
  J_iload_n (i := 3) rfl rfl d_M_isGood_134 <|
  kM_147_i rfl rfl rfl (args := [.inl x3]) (((h46).2 c52)) d_M_isGood_135 (fun r50 s48 h49 =>
  J_if_eq (tgt := 145) d_M_isGood_138 (by decide) (fun c51 =>
  J_iconst (v := (0 : Int32)) d_M_isGood_145 (by decide) <|
  J_zret rfl (Or.inl rfl) d_M_isGood_146 (((h49).1 c51))) (fun c51 =>
  J_iconst (v := (1 : Int32)) d_M_isGood_141 (by decide) <|
  J_goto (tgt := 146) d_M_isGood_142 (by decide) <|
  J_zret rfl (Or.inr rfl) d_M_isGood_146 (((h49).2 c51))))))) <| fun c85_4 =>
  Classical.byCases (p := x1 = (nI 6)) (fun c85 => J_tabIn (tgt := 147) c85 d_M_isGood_1 (by decide) (by decide) rfl (by decide) <|
  J_iload_n (i := 2) rfl rfl d_M_isGood_147 <|
  kM_147_i rfl rfl rfl (args := [.inl x2]) ((((((((h).2).2).2).2).2).1 c85)) d_M_isGood_148 (fun r55 s53 h54 =>
  J_if_eq (tgt := 165) d_M_isGood_151 (by decide) (fun c60 =>
  J_iconst (v := (0 : Int32)) d_M_isGood_165 (by decide) <|
  J_zret rfl (Or.inl rfl) d_M_isGood_166 (((h54).1 c60))) (fun c60 =>
  J_iload_n (i := 3) rfl rfl d_M_isGood_154 <|
  kM_141_i rfl rfl rfl (args := [.inl x3]) (((h54).2 c60)) d_M_isGood_155 (fun r58 s56 h57 =>
  J_if_eq (tgt := 165) d_M_isGood_158 (by decide) (fun c59 =>
  J_iconst (v := (0 : Int32)) d_M_isGood_165 (by decide) <|
  J_zret rfl (Or.inl rfl) d_M_isGood_166 (((h57).1 c59))) (fun c59 =>
  J_iconst (v := (1 : Int32)) d_M_isGood_161 (by decide) <|
  J_goto (tgt := 166) d_M_isGood_162 (by decide) <|
  J_zret rfl (Or.inr rfl) d_M_isGood_166 (((h57).2 c59))))))) <| fun c85_5 =>
  Classical.byCases (p := x1 = (nI 7)) (fun c85 => J_tabIn (tgt := 167) c85 d_M_isGood_1 (by decide) (by decide) rfl (by decide) <|
  J_iload_n (i := 2) rfl rfl d_M_isGood_167 <|
  kM_141_i rfl rfl rfl (args := [.inl x2]) (((((((((h).2).2).2).2).2).2).1 c85)) d_M_isGood_168 (fun r63 s61 h62 =>
  J_if_eq (tgt := 201) d_M_isGood_171 (by decide) (fun c76 =>
  J_iconst (v := (0 : Int32)) d_M_isGood_201 (by decide) <|
  J_zret rfl (Or.inl rfl) d_M_isGood_202 (((h62).1 c76))) (fun c76 =>
  J_iload_n (i := 3) rfl rfl d_M_isGood_174 <|
  kM_141_i rfl rfl rfl (args := [.inl x3]) (((h62).2 c76)) d_M_isGood_175 (fun r66 s64 h65 =>
  J_if_eq (tgt := 201) d_M_isGood_178 (by decide) (fun c75 =>
  J_iconst (v := (0 : Int32)) d_M_isGood_201 (by decide) <|
  J_zret rfl (Or.inl rfl) d_M_isGood_202 (((h65).1 c75))) (fun c75 =>
  J_iload (i := 5) rfl d_M_isGood_181 <|
  kM_141_i rfl rfl rfl (args := [.inl x5]) (((h65).2 c75)) d_M_isGood_183 (fun r69 s67 h68 =>
  J_if_eq (tgt := 201) d_M_isGood_186 (by decide) (fun c74 =>
  J_iconst (v := (0 : Int32)) d_M_isGood_201 (by decide) <|
  J_zret rfl (Or.inl rfl) d_M_isGood_202 (((h68).1 c74))) (fun c74 =>
  J_iload (i := 6) rfl d_M_isGood_189 <|
  kM_141_i rfl rfl rfl (args := [.inl x6]) (((h68).2 c74)) d_M_isGood_191 (fun r72 s70 h71 =>
  J_if_eq (tgt := 201) d_M_isGood_194 (by decide) (fun c73 =>
  J_iconst (v := (0 : Int32)) d_M_isGood_201 (by decide) <|
  J_zret rfl (Or.inl rfl) d_M_isGood_202 (((h71).1 c73))) (fun c73 =>
  J_iconst (v := (1 : Int32)) d_M_isGood_197 (by decide) <|
  J_goto (tgt := 202) d_M_isGood_198 (by decide) <|
  J_zret rfl (Or.inr rfl) d_M_isGood_202 (((h71).2 c73))))))))))) <| fun c85_6 =>
  Classical.byCases (p := x1 = (1 : Int32)) (fun c85 => J_tabIn (tgt := 203) c85 d_M_isGood_1 (by decide) (by decide) rfl (by decide) <|
  J_iload_n (i := 2) rfl rfl d_M_isGood_203 <|
  kM_141_i rfl rfl rfl (args := [.inl x2]) ((((((((((h).2).2).2).2).2).2).2) c85_0 c85_1 c85_2 c85_3 c85_4 c85_5 c85_6)) d_M_isGood_204 (fun r79 s77 h78 =>
  J_if_eq (tgt := 221) d_M_isGood_207 (by decide) (fun c84 =>
  J_iconst (v := (0 : Int32)) d_M_isGood_221 (by decide) <|
  J_zret rfl (Or.inl rfl) d_M_isGood_222 (((h78).1 c84))) (fun c84 =>
  J_iload_n (i := 3) rfl rfl d_M_isGood_210 <|
  kM_141_i rfl rfl rfl (args := [.inl x3]) (((h78).2 c84)) d_M_isGood_211 (fun r82 s80 h81 =>
  J_if_eq (tgt := 221) d_M_isGood_214 (by decide) (fun c83 =>
  J_iconst (v := (0 : Int32)) d_M_isGood_221 (by decide) <|
  J_zret rfl (Or.inl rfl) d_M_isGood_222 (((h81).1 c83))) (fun c83 =>
  J_iconst (v := (1 : Int32)) d_M_isGood_217 (by decide) <|
  J_goto (tgt := 222) d_M_isGood_218 (by decide) <|
  J_zret rfl (Or.inr rfl) d_M_isGood_222 (((h81).2 c83))))))) <| fun c85e1 =>
  J_tabOut (x := x1) (tgt := 203) (by have q0 := lv_neT (a := 0) c85_0 (by decide); have q1 := lv_neT (a := 1) c85e1 (by decide); have q2 := lv_neT (a := 2) c85_1 (by decide); have q3 := lv_neT (a := 3) c85_2 (by decide); have q4 := lv_neT (a := 4) c85_3 (by decide); have q5 := lv_neT (a := 5) c85_4 (by decide); have q6 := lv_neT (a := 6) c85_5 (by decide); have q7 := lv_neT (a := 7) c85_6 (by decide); omega) d_M_isGood_1 (by decide) <|
  J_iload_n (i := 2) rfl rfl d_M_isGood_203 <|
  kM_141_i rfl rfl rfl (args := [.inl x2]) ((((((((((h).2).2).2).2).2).2).2) c85_0 c85_1 c85_2 c85_3 c85_4 c85_5 c85_6)) d_M_isGood_204 (fun r79 s77 h78 =>
  J_if_eq (tgt := 221) d_M_isGood_207 (by decide) (fun c84 =>
  J_iconst (v := (0 : Int32)) d_M_isGood_221 (by decide) <|
  J_zret rfl (Or.inl rfl) d_M_isGood_222 (((h78).1 c84))) (fun c84 =>
  J_iload_n (i := 3) rfl rfl d_M_isGood_210 <|
  kM_141_i rfl rfl rfl (args := [.inl x3]) (((h78).2 c84)) d_M_isGood_211 (fun r82 s80 h81 =>
  J_if_eq (tgt := 221) d_M_isGood_214 (by decide) (fun c83 =>
  J_iconst (v := (0 : Int32)) d_M_isGood_221 (by decide) <|
  J_zret rfl (Or.inl rfl) d_M_isGood_222 (((h81).1 c83))) (fun c83 =>
  J_iconst (v := (1 : Int32)) d_M_isGood_217 (by decide) <|
  J_goto (tgt := 222) d_M_isGood_218 (by decide) <|
  J_zret rfl (Or.inr rfl) d_M_isGood_222 (((h81).2 c83))))))
theorem r_M_statement_0 {Q : Option mV → mS → Prop} {σ : mS} {x1 x2 x3 x4 x5 x6 x7 : Int32} (h : MU M_M_isMethod [.inr (25, 0), .inl x1] σ (fun r s1 => ∃ r3, r = some (.inl r3) ∧ ((¬ r3 = (0 : Int32) → ((x2 < (0 : Int32) → (Q (some (.inl (-nI 2))) s1)) ∧ (¬ x2 < (0 : Int32) → ((x2 ≤ (nI 9) → (MU M_M_isGood [.inr (25, 0), .inl x2, .inl x3, .inl x4, .inl x5, .inl x6, .inl x7] s1 (fun r s4 => ∃ r6, r = some (.inl r6) ∧ ((¬ r6 = (0 : Int32) → ((¬ x2 = (nI 7) → (J M_M_statement Q 62 [some (.inr (25, 0)), some (.inl x1), some (.inl x2), some (.inl x3), some (.inl x4), some (.inl x5), some (.inl x6), some (.inl x7), none] [] s4)) ∧ (x2 = (nI 7) → ((x5 < (0 : Int32) → (Q (some (.inl (-nI 2))) s4)) ∧ (¬ x5 < (0 : Int32) → ((x5 ≤ (nI 3) → (J M_M_statement Q 62 [some (.inr (25, 0)), some (.inl x1), some (.inl x2), some (.inl x3), some (.inl x4), some (.inl x5), some (.inl x6), some (.inl x7), none] [] s4)) ∧ (¬ x5 ≤ (nI 3) → (Q (some (.inl (-nI 2))) s4)))))))) ∧ (r6 = (0 : Int32) → (Q (some (.inl (-1 : Int32))) s4)))))) ∧ (¬ x2 ≤ (nI 9) → (Q (some (.inl (-nI 2))) s1)))))) ∧ (r3 = (0 : Int32) → (Q (some (.inl (-1 : Int32))) s1))))) : J M_M_statement Q 0 [some (.inr (25, 0)), some (.inl x1), some (.inl x2), some (.inl x3), some (.inl x4), some (.inl x5), some (.inl x6), some (.inl x7), none] [] σ :=
  J_aload_n (i := 0) rfl rfl d_M_statement_0 <|
  J_iload_n (i := 1) rfl rfl d_M_statement_1 <|
  kM_150_i rfl rfl rfl (args := [.inl x1]) (h) d_M_statement_2 (fun r3 s1 h2 =>
  J_if_ne (tgt := 10) d_M_statement_5 (by decide) (fun c13 =>
  J_iload_n (i := 2) rfl rfl d_M_statement_10 <|
  J_if_lt (tgt := 20) d_M_statement_11 (by decide) (fun c12 =>
  J_bipush (v := (-nI 2)) d_M_statement_20 (by decide) <|
  J_iret rfl d_M_statement_22 (((((h2).1 c13)).1 c12))) (fun c12 =>
  J_iload_n (i := 2) rfl rfl d_M_statement_14 <|
  J_bipush (v := (nI 9)) d_M_statement_15 (by decide) <|
  J_icmp_le (tgt := 23) d_M_statement_17 (by decide) (fun c11 =>
  J_aload_n (i := 0) rfl rfl d_M_statement_23 <|
  J_iload_n (i := 2) rfl rfl d_M_statement_24 <|
  J_iload_n (i := 3) rfl rfl d_M_statement_25 <|
  J_iload (i := 4) rfl d_M_statement_26 <|
  J_iload (i := 5) rfl d_M_statement_28 <|
  J_iload (i := 6) rfl d_M_statement_30 <|
  J_iload (i := 7) rfl d_M_statement_32 <|
  kM_153_i rfl rfl rfl (args := [.inl x2, .inl x3, .inl x4, .inl x5, .inl x6, .inl x7]) (((((((h2).1 c13)).2 c12)).1 c11)) d_M_statement_34 (fun r6 s4 h5 =>
  J_if_ne (tgt := 42) d_M_statement_37 (by decide) (fun c10 =>
  J_iload_n (i := 2) rfl rfl d_M_statement_42 <|
  J_bipush (v := (nI 7)) d_M_statement_43 (by decide) <|
  J_icmp_ne (tgt := 62) d_M_statement_45 (by decide) (fun c9 =>
  ((((h5).1 c10)).1 c9)) (fun c9 =>
  J_iload (i := 5) rfl d_M_statement_48 <|
  J_if_lt (tgt := 59) d_M_statement_50 (by decide) (fun c8 =>
  J_bipush (v := (-nI 2)) d_M_statement_59 (by decide) <|
  J_iret rfl d_M_statement_61 (((((((h5).1 c10)).2 c9)).1 c8))) (fun c8 =>
  J_iload (i := 5) rfl d_M_statement_53 <|
  J_iconst (v := (nI 3)) d_M_statement_55 (by decide) <|
  J_icmp_le (tgt := 62) d_M_statement_56 (by decide) (fun c7 =>
  ((((((((h5).1 c10)).2 c9)).2 c8)).1 c7)) (fun c7 =>
  J_bipush (v := (-nI 2)) d_M_statement_59 (by decide) <|
  J_iret rfl d_M_statement_61 (((((((((h5).1 c10)).2 c9)).2 c8)).2 c7)))))) (fun c10 =>
  J_iconst (v := (-1 : Int32)) d_M_statement_40 (by decide) <|
  J_iret rfl d_M_statement_41 (((h5).2 c10))))) (fun c11 =>
  J_bipush (v := (-nI 2)) d_M_statement_20 (by decide) <|
  J_iret rfl d_M_statement_22 (((((((h2).1 c13)).2 c12)).2 c11))))) (fun c13 =>
  J_iconst (v := (-1 : Int32)) d_M_statement_8 (by decide) <|
  J_iret rfl d_M_statement_9 (((h2).2 c13))))
theorem r_M_statement_62 {Q : Option mV → mS → Prop} {σ : mS} {x1 x2 x3 x4 x5 x6 x7 : Int32} {u8 : Option mV} (h : ((σ 25 7) = (nI 60) → (Q (some (.inl (-nI 4))) σ)) ∧ (¬ (σ 25 7) = (nI 60) → ((¬ x2 = (0 : Int32) → (J M_M_statement Q 87 [some (.inr (25, 0)), some (.inl x1), some (.inl x2), some (.inl x3), some (.inl x4), some (.inl x5), some (.inl x6), some (.inl x7), u8] [] σ)) ∧ (x2 = (0 : Int32) → ((¬ (σ 25 16) = (nI 20) → (J M_M_statement Q 87 [some (.inr (25, 0)), some (.inl x1), some (.inl x2), some (.inl x3), some (.inl x4), some (.inl x5), some (.inl x6), some (.inl x7), u8] [] σ)) ∧ ((σ 25 16) = (nI 20) → (Q (some (.inl (-nI 4))) σ))))))) : J M_M_statement Q 62 [some (.inr (25, 0)), some (.inl x1), some (.inl x2), some (.inl x3), some (.inl x4), some (.inl x5), some (.inl x6), some (.inl x7), u8] [] σ :=
  J_aload_n (i := 0) rfl rfl d_M_statement_62 <|
  gM_157 rfl d_M_statement_63 <|
  J_bipush (v := (nI 60)) d_M_statement_66 (by decide) <|
  J_icmp_eq (tgt := 84) d_M_statement_68 (by decide) (fun c16 =>
  J_bipush (v := (-nI 4)) d_M_statement_84 (by decide) <|
  J_iret rfl d_M_statement_86 (((h).1 c16))) (fun c16 =>
  J_iload_n (i := 2) rfl rfl d_M_statement_71 <|
  J_if_ne (tgt := 87) d_M_statement_72 (by decide) (fun c15 =>
  ((((h).2 c16)).1 c15)) (fun c15 =>
  J_aload_n (i := 0) rfl rfl d_M_statement_75 <|
  gM_160 rfl d_M_statement_76 <|
  J_bipush (v := (nI 20)) d_M_statement_79 (by decide) <|
  J_icmp_ne (tgt := 87) d_M_statement_81 (by decide) (fun c14 =>
  ((((((h).2 c16)).2 c15)).1 c14)) (fun c14 =>
  J_bipush (v := (-nI 4)) d_M_statement_84 (by decide) <|
  J_iret rfl d_M_statement_86 (((((((h).2 c16)).2 c15)).2 c14)))))
theorem r_M_statement_87 {Q : Option mV → mS → Prop} {σ : mS} {x1 x2 x3 x4 x5 x6 x7 : Int32} {u8 : Option mV} (h : ∀ v17, v17 = (σ 25 7) → (vp_in v17 60 ∧ (vp_in v17 60 ∧ (vp_in v17 60 ∧ (vp_in v17 60 ∧ (vp_in v17 60 ∧ (vp_in v17 60 ∧ (vp_in v17 60 ∧ (vp_in v17 60 ∧ (∀ t25, t25 = (m_up (m_up (m_up (m_up (m_up (m_up (m_up (m_up σ 30 v17.toNatClampNeg x1) 31 v17.toNatClampNeg x2) 32 v17.toNatClampNeg x3) 33 v17.toNatClampNeg x4) 34 v17.toNatClampNeg x5) 35 v17.toNatClampNeg x6) 36 v17.toNatClampNeg x7) 37 v17.toNatClampNeg (-1 : Int32)) → ((¬ x2 = (0 : Int32) → (MU M_M_change [.inr (25, 0)] (m_up t25 25 7 ((t25 25 7) + (1 : Int32))) (fun r s27 => r = none ∧ (Q (some (.inl v17)) s27)))) ∧ (x2 = (0 : Int32) → (vp_in v17 60 ∧ (∀ t29, t29 = (m_up t25 37 v17.toNatClampNeg (t25 25 16)) → (vp_in (t29 25 16) 20 ∧ (∀ t30, t30 = (m_up t29 38 (t29 25 16).toNatClampNeg x4) → (∀ t31, t31 = (m_up t30 25 16 ((t30 25 16) + (1 : Int32))) → (MU M_M_change [.inr (25, 0)] (m_up t31 25 7 ((t31 25 7) + (1 : Int32))) (fun r s33 => r = none ∧ (Q (some (.inl v17)) s33)))))))))))))))))))) : J M_M_statement Q 87 [some (.inr (25, 0)), some (.inl x1), some (.inl x2), some (.inl x3), some (.inl x4), some (.inl x5), some (.inl x6), some (.inl x7), u8] [] σ :=
  J_aload_n (i := 0) rfl rfl d_M_statement_87 <|
  gM_157 rfl d_M_statement_88 <|
  J_namei (fun v17 ev17 =>
  J_istore (i := 8) (ls' := [some (.inr (25, 0)), some (.inl x1), some (.inl x2), some (.inl x3), some (.inl x4), some (.inl x5), some (.inl x6), some (.inl x7), some (.inl v17)]) rfl rfl rfl d_M_statement_91 <|
  J_aload_n (i := 0) rfl rfl d_M_statement_93 <|
  gM_22 rfl d_M_statement_94 <|
  J_iload (i := 8) rfl d_M_statement_97 <|
  J_iload_n (i := 1) rfl rfl d_M_statement_99 <|
  J_iast (((h) v17 ev17)).1 d_M_statement_100 <|
  J_aload_n (i := 0) rfl rfl d_M_statement_101 <|
  gM_25 rfl d_M_statement_102 <|
  J_iload (i := 8) rfl d_M_statement_105 <|
  J_iload_n (i := 2) rfl rfl d_M_statement_107 <|
  J_iast ((((h) v17 ev17)).2).1 d_M_statement_108 <|
  J_aload_n (i := 0) rfl rfl d_M_statement_109 <|
  gM_28 rfl d_M_statement_110 <|
  J_iload (i := 8) rfl d_M_statement_113 <|
  J_iload_n (i := 3) rfl rfl d_M_statement_115 <|
  J_iast (((((h) v17 ev17)).2).2).1 d_M_statement_116 <|
  J_aload_n (i := 0) rfl rfl d_M_statement_117 <|
  gM_31 rfl d_M_statement_118 <|
  J_iload (i := 8) rfl d_M_statement_121 <|
  J_iload (i := 4) rfl d_M_statement_123 <|
  J_iast ((((((h) v17 ev17)).2).2).2).1 d_M_statement_125 <|
  J_aload_n (i := 0) rfl rfl d_M_statement_126 <|
  gM_34 rfl d_M_statement_127 <|
  J_iload (i := 8) rfl d_M_statement_130 <|
  J_iload (i := 5) rfl d_M_statement_132 <|
  J_iast (((((((h) v17 ev17)).2).2).2).2).1 d_M_statement_134 <|
  J_aload_n (i := 0) rfl rfl d_M_statement_135 <|
  gM_37 rfl d_M_statement_136 <|
  J_iload (i := 8) rfl d_M_statement_139 <|
  J_iload (i := 6) rfl d_M_statement_141 <|
  J_iast ((((((((h) v17 ev17)).2).2).2).2).2).1 d_M_statement_143 <|
  J_aload_n (i := 0) rfl rfl d_M_statement_144 <|
  gM_40 rfl d_M_statement_145 <|
  J_iload (i := 8) rfl d_M_statement_148 <|
  J_iload (i := 7) rfl d_M_statement_150 <|
  J_iast (((((((((h) v17 ev17)).2).2).2).2).2).2).1 d_M_statement_152 <|
  J_aload_n (i := 0) rfl rfl d_M_statement_153 <|
  gM_43 rfl d_M_statement_154 <|
  J_iload (i := 8) rfl d_M_statement_157 <|
  J_iconst (v := (-1 : Int32)) d_M_statement_159 (by decide) <|
  J_iast ((((((((((h) v17 ev17)).2).2).2).2).2).2).2).1 d_M_statement_160 <|
  J_names (fun t25 et25 =>
  J_iload_n (i := 2) rfl rfl d_M_statement_161 <|
  J_if_ne (tgt := 197) d_M_statement_162 (by decide) (fun c35 =>
  J_aload_n (i := 0) rfl rfl d_M_statement_197 <|
  J_dup d_M_statement_198 <|
  gM_157 rfl d_M_statement_199 <|
  J_iconst (v := (1 : Int32)) d_M_statement_202 (by decide) <|
  J_iadd d_M_statement_203 <|
  pM_157 rfl d_M_statement_204 <|
  J_aload_n (i := 0) rfl rfl d_M_statement_207 <|
  kM_134_v rfl rfl rfl (args := []) (((((((((((((((h) v17 ev17)).2).2).2).2).2).2).2).2) t25 et25)).1 c35)) d_M_statement_208 (fun s27 h28 =>
  J_iload (i := 8) rfl d_M_statement_211 <|
  J_iret rfl d_M_statement_213 (h28))) (fun c35 =>
  J_aload_n (i := 0) rfl rfl d_M_statement_165 <|
  gM_43 rfl d_M_statement_166 <|
  J_iload (i := 8) rfl d_M_statement_169 <|
  J_aload_n (i := 0) rfl rfl d_M_statement_171 <|
  gM_160 rfl d_M_statement_172 <|
  J_iast (((((((((((((((h) v17 ev17)).2).2).2).2).2).2).2).2) t25 et25)).2 c35)).1 d_M_statement_175 <|
  J_names (fun t29 et29 =>
  J_aload_n (i := 0) rfl rfl d_M_statement_176 <|
  gM_46 rfl d_M_statement_177 <|
  J_aload_n (i := 0) rfl rfl d_M_statement_180 <|
  gM_160 rfl d_M_statement_181 <|
  J_iload (i := 4) rfl d_M_statement_184 <|
  J_iast ((((((((((((((((((h) v17 ev17)).2).2).2).2).2).2).2).2) t25 et25)).2 c35)).2) t29 et29)).1 d_M_statement_186 <|
  J_names (fun t30 et30 =>
  J_aload_n (i := 0) rfl rfl d_M_statement_187 <|
  J_dup d_M_statement_188 <|
  gM_160 rfl d_M_statement_189 <|
  J_iconst (v := (1 : Int32)) d_M_statement_192 (by decide) <|
  J_iadd d_M_statement_193 <|
  pM_160 rfl d_M_statement_194 <|
  J_names (fun t31 et31 =>
  J_aload_n (i := 0) rfl rfl d_M_statement_197 <|
  J_dup d_M_statement_198 <|
  gM_157 rfl d_M_statement_199 <|
  J_iconst (v := (1 : Int32)) d_M_statement_202 (by decide) <|
  J_iadd d_M_statement_203 <|
  pM_157 rfl d_M_statement_204 <|
  J_aload_n (i := 0) rfl rfl d_M_statement_207 <|
  kM_134_v rfl rfl rfl (args := []) (((((((((((((((((((((((h) v17 ev17)).2).2).2).2).2).2).2).2) t25 et25)).2 c35)).2) t29 et29)).2) t30 et30)) t31 et31)) d_M_statement_208 (fun s33 h34 =>
  J_iload (i := 8) rfl d_M_statement_211 <|
  J_iret rfl d_M_statement_213 (h34))))))))
theorem r_M_mode_0 {Q : Option mV → mS → Prop} {σ : mS} {x1 : Int32} (h : (x1 < (0 : Int32) → (Q (some (.inl (-nI 2))) σ)) ∧ (¬ x1 < (0 : Int32) → ((x1 ≤ (1 : Int32) → (MU M_M_change [.inr (25, 0)] (m_up σ 25 18 x1) (fun r s3 => r = none ∧ (Q (some (.inl (σ 25 18))) s3)))) ∧ (¬ x1 ≤ (1 : Int32) → (Q (some (.inl (-nI 2))) σ))))) : J M_M_mode Q 0 [some (.inr (25, 0)), some (.inl x1), none] [] σ :=
  J_iload_n (i := 1) rfl rfl d_M_mode_0 <|
  J_if_lt (tgt := 9) d_M_mode_1 (by decide) (fun c6 =>
  J_bipush (v := (-nI 2)) d_M_mode_9 (by decide) <|
  J_iret rfl d_M_mode_11 (((h).1 c6))) (fun c6 =>
  J_iload_n (i := 1) rfl rfl d_M_mode_4 <|
  J_iconst (v := (1 : Int32)) d_M_mode_5 (by decide) <|
  J_icmp_le (tgt := 12) d_M_mode_6 (by decide) (fun c5 =>
  J_aload_n (i := 0) rfl rfl d_M_mode_12 <|
  gM_163 rfl d_M_mode_13 <|
  J_istore_n (i := 2) (ls' := [some (.inr (25, 0)), some (.inl x1), some (.inl (σ 25 18))]) rfl rfl rfl rfl d_M_mode_16 <|
  J_aload_n (i := 0) rfl rfl d_M_mode_17 <|
  J_iload_n (i := 1) rfl rfl d_M_mode_18 <|
  pM_163 rfl d_M_mode_19 <|
  J_aload_n (i := 0) rfl rfl d_M_mode_22 <|
  kM_134_v rfl rfl rfl (args := []) (((((h).2 c6)).1 c5)) d_M_mode_23 (fun s3 h4 =>
  J_iload_n (i := 2) rfl rfl d_M_mode_26 <|
  J_iret rfl d_M_mode_27 (h4))) (fun c5 =>
  J_bipush (v := (-nI 2)) d_M_mode_9 (by decide) <|
  J_iret rfl d_M_mode_11 (((((h).2 c6)).2 c5))))
theorem r_M_clear_0 {Q : Option mV → mS → Prop} {σ : mS} (h : MU M_M_change [.inr (25, 0)] (m_up (m_up (m_up (m_up (m_up σ 25 0 (0 : Int32)) 25 2 (0 : Int32)) 25 4 (0 : Int32)) 25 7 (0 : Int32)) 25 16 (0 : Int32)) (fun r s7 => r = none ∧ (Q (some (.inl (σ 25 7))) s7))) : J M_M_clear Q 0 [some (.inr (25, 0)), none] [] σ :=
  J_aload_n (i := 0) rfl rfl d_M_clear_0 <|
  gM_157 rfl d_M_clear_1 <|
  J_istore_n (i := 1) (ls' := [some (.inr (25, 0)), some (.inl (σ 25 7))]) rfl rfl rfl rfl d_M_clear_4 <|
  J_aload_n (i := 0) rfl rfl d_M_clear_5 <|
  J_iconst (v := (0 : Int32)) d_M_clear_6 (by decide) <|
  pM_109 rfl d_M_clear_7 <|
  J_aload_n (i := 0) rfl rfl d_M_clear_10 <|
  J_iconst (v := (0 : Int32)) d_M_clear_11 (by decide) <|
  pM_113 rfl d_M_clear_12 <|
  J_aload_n (i := 0) rfl rfl d_M_clear_15 <|
  J_iconst (v := (0 : Int32)) d_M_clear_16 (by decide) <|
  pM_116 rfl d_M_clear_17 <|
  J_aload_n (i := 0) rfl rfl d_M_clear_20 <|
  J_iconst (v := (0 : Int32)) d_M_clear_21 (by decide) <|
  pM_157 rfl d_M_clear_22 <|
  J_aload_n (i := 0) rfl rfl d_M_clear_25 <|
  J_iconst (v := (0 : Int32)) d_M_clear_26 (by decide) <|
  pM_160 rfl d_M_clear_27 <|
  J_aload_n (i := 0) rfl rfl d_M_clear_30 <|
  kM_134_v rfl rfl rfl (args := []) (h) d_M_clear_31 (fun s7 h8 =>
  J_iload_n (i := 1) rfl rfl d_M_clear_34 <|
  J_iret rfl d_M_clear_35 (h8))
theorem r_M_nameAt_0 {Q : Option mV → mS → Prop} {σ : mS} {x0 x1 x2 : Int32} (h : Q (some (.inl ((((nI 126) * x0) + ((nI 6) * x1)) + x2))) σ) : J M_M_nameAt Q 0 [some (.inl x0), some (.inl x1), some (.inl x2)] [] σ :=
  J_bipush (v := (nI 126)) d_M_nameAt_0 (by decide) <|
  J_iload_n (i := 0) rfl rfl d_M_nameAt_2 <|
  J_imul d_M_nameAt_3 <|
  J_bipush (v := (nI 6)) d_M_nameAt_4 (by decide) <|
  J_iload_n (i := 1) rfl rfl d_M_nameAt_6 <|
  J_imul d_M_nameAt_7 <|
  J_iadd d_M_nameAt_8 <|
  J_iload_n (i := 2) rfl rfl d_M_nameAt_9 <|
  J_iadd d_M_nameAt_10 <|
  J_iret rfl d_M_nameAt_11 (h)
theorem r_M_empty_0 {Q : Option mV → mS → Prop} {σ : mS} (h : J M_M_empty Q 2 [some (.inr (25, 0)), some (.inl (0 : Int32))] [] σ) : J M_M_empty Q 0 [some (.inr (25, 0)), none] [] σ :=
  J_iconst (v := (0 : Int32)) d_M_empty_0 (by decide) <|
  J_istore_n (i := 1) (ls' := [some (.inr (25, 0)), some (.inl (0 : Int32))]) rfl rfl rfl rfl d_M_empty_1 <|
  h
theorem r_M_empty_2 {Q : Option mV → mS → Prop} {σ : mS} {x1 : Int32} (h : ((nI 1260) ≤ x1 → (J M_M_empty Q 24 [some (.inr (25, 0)), some (.inl (0 : Int32))] [] σ)) ∧ (¬ (nI 1260) ≤ x1 → (vp_in x1 1260 ∧ (J M_M_empty Q 2 [some (.inr (25, 0)), some (.inl (x1 + 1))] [] (m_up σ 39 x1.toNatClampNeg (0 : Int32)))))) : J M_M_empty Q 2 [some (.inr (25, 0)), some (.inl x1)] [] σ :=
  J_iload_n (i := 1) rfl rfl d_M_empty_2 <|
  J_sipush (v := (nI 1260)) d_M_empty_3 (by decide) <|
  J_icmp_ge (tgt := 22) d_M_empty_6 (by decide) (fun c2 =>
  J_iconst (v := (0 : Int32)) d_M_empty_22 (by decide) <|
  J_istore_n (i := 1) (ls' := [some (.inr (25, 0)), some (.inl (0 : Int32))]) rfl rfl rfl rfl d_M_empty_23 <|
  ((h).1 c2)) (fun c2 =>
  J_aload_n (i := 0) rfl rfl d_M_empty_9 <|
  gM_49 rfl d_M_empty_10 <|
  J_iload_n (i := 1) rfl rfl d_M_empty_13 <|
  J_iconst (v := (0 : Int32)) d_M_empty_14 (by decide) <|
  J_iast (((h).2 c2)).1 d_M_empty_15 <|
  J_iinc (i := 1) (v := (x1 + 1)) (ls' := [some (.inr (25, 0)), some (.inl (x1 + 1))]) rfl rfl rfl rfl rfl d_M_empty_16 <|
  J_goto (tgt := 2) d_M_empty_19 (by decide) <|
  (((h).2 c2)).2)
theorem r_M_empty_24 {Q : Option mV → mS → Prop} {σ : mS} {x1 : Int32} (h : ((nI 160) ≤ x1 → (J M_M_empty Q 46 [some (.inr (25, 0)), some (.inl (0 : Int32))] [] σ)) ∧ (¬ (nI 160) ≤ x1 → (vp_in x1 160 ∧ (J M_M_empty Q 24 [some (.inr (25, 0)), some (.inl (x1 + 1))] [] (m_up σ 41 x1.toNatClampNeg (0 : Int32)))))) : J M_M_empty Q 24 [some (.inr (25, 0)), some (.inl x1)] [] σ :=
  J_iload_n (i := 1) rfl rfl d_M_empty_24 <|
  J_sipush (v := (nI 160)) d_M_empty_25 (by decide) <|
  J_icmp_ge (tgt := 44) d_M_empty_28 (by decide) (fun c4 =>
  J_iconst (v := (0 : Int32)) d_M_empty_44 (by decide) <|
  J_istore_n (i := 1) (ls' := [some (.inr (25, 0)), some (.inl (0 : Int32))]) rfl rfl rfl rfl d_M_empty_45 <|
  ((h).1 c4)) (fun c4 =>
  J_aload_n (i := 0) rfl rfl d_M_empty_31 <|
  gM_55 rfl d_M_empty_32 <|
  J_iload_n (i := 1) rfl rfl d_M_empty_35 <|
  J_iconst (v := (0 : Int32)) d_M_empty_36 (by decide) <|
  J_iast (((h).2 c4)).1 d_M_empty_37 <|
  J_iinc (i := 1) (v := (x1 + 1)) (ls' := [some (.inr (25, 0)), some (.inl (x1 + 1))]) rfl rfl rfl rfl rfl d_M_empty_38 <|
  J_goto (tgt := 24) d_M_empty_41 (by decide) <|
  (((h).2 c4)).2)
theorem r_M_empty_46 {Q : Option mV → mS → Prop} {σ : mS} {x1 : Int32} (h : ((nI 20) ≤ x1 → (J M_M_empty Q 67 [some (.inr (25, 0)), some (.inl (0 : Int32))] [] σ)) ∧ (¬ (nI 20) ≤ x1 → (vp_in x1 20 ∧ (J M_M_empty Q 46 [some (.inr (25, 0)), some (.inl (x1 + 1))] [] (m_up σ 43 x1.toNatClampNeg (0 : Int32)))))) : J M_M_empty Q 46 [some (.inr (25, 0)), some (.inl x1)] [] σ :=
  J_iload_n (i := 1) rfl rfl d_M_empty_46 <|
  J_bipush (v := (nI 20)) d_M_empty_47 (by decide) <|
  J_icmp_ge (tgt := 65) d_M_empty_49 (by decide) (fun c6 =>
  J_iconst (v := (0 : Int32)) d_M_empty_65 (by decide) <|
  J_istore_n (i := 1) (ls' := [some (.inr (25, 0)), some (.inl (0 : Int32))]) rfl rfl rfl rfl d_M_empty_66 <|
  ((h).1 c6)) (fun c6 =>
  J_aload_n (i := 0) rfl rfl d_M_empty_52 <|
  gM_61 rfl d_M_empty_53 <|
  J_iload_n (i := 1) rfl rfl d_M_empty_56 <|
  J_iconst (v := (0 : Int32)) d_M_empty_57 (by decide) <|
  J_iast (((h).2 c6)).1 d_M_empty_58 <|
  J_iinc (i := 1) (v := (x1 + 1)) (ls' := [some (.inr (25, 0)), some (.inl (x1 + 1))]) rfl rfl rfl rfl rfl d_M_empty_59 <|
  J_goto (tgt := 46) d_M_empty_62 (by decide) <|
  (((h).2 c6)).2)
theorem r_M_empty_67 {Q : Option mV → mS → Prop} {σ : mS} {x1 : Int32} (h : ((nI 4) ≤ x1 → (J M_M_empty Q 87 [some (.inr (25, 0)), some (.inl (0 : Int32))] [] σ)) ∧ (¬ (nI 4) ≤ x1 → (vp_in x1 4 ∧ (J M_M_empty Q 67 [some (.inr (25, 0)), some (.inl (x1 + 1))] [] (m_up σ 45 x1.toNatClampNeg (0 : Int32)))))) : J M_M_empty Q 67 [some (.inr (25, 0)), some (.inl x1)] [] σ :=
  J_iload_n (i := 1) rfl rfl d_M_empty_67 <|
  J_iconst (v := (nI 4)) d_M_empty_68 (by decide) <|
  J_icmp_ge (tgt := 85) d_M_empty_69 (by decide) (fun c8 =>
  J_iconst (v := (0 : Int32)) d_M_empty_85 (by decide) <|
  J_istore_n (i := 1) (ls' := [some (.inr (25, 0)), some (.inl (0 : Int32))]) rfl rfl rfl rfl d_M_empty_86 <|
  ((h).1 c8)) (fun c8 =>
  J_aload_n (i := 0) rfl rfl d_M_empty_72 <|
  gM_67 rfl d_M_empty_73 <|
  J_iload_n (i := 1) rfl rfl d_M_empty_76 <|
  J_iconst (v := (0 : Int32)) d_M_empty_77 (by decide) <|
  J_iast (((h).2 c8)).1 d_M_empty_78 <|
  J_iinc (i := 1) (v := (x1 + 1)) (ls' := [some (.inr (25, 0)), some (.inl (x1 + 1))]) rfl rfl rfl rfl rfl d_M_empty_79 <|
  J_goto (tgt := 67) d_M_empty_82 (by decide) <|
  (((h).2 c8)).2)
theorem r_M_empty_87 {Q : Option mV → mS → Prop} {σ : mS} {x1 : Int32} (h : ((nI 10) ≤ x1 → (J M_M_empty Q 123 [some (.inr (25, 0)), some (.inl (0 : Int32))] [] σ)) ∧ (¬ (nI 10) ≤ x1 → ((¬ x1 = (0 : Int32) → (vp_in x1 10 ∧ (J M_M_empty Q 87 [some (.inr (25, 0)), some (.inl (x1 + 1))] [] (m_up σ 47 x1.toNatClampNeg (0 : Int32))))) ∧ (x1 = (0 : Int32) → (((σ 25 4) ≤ (0 : Int32) → (vp_in x1 10 ∧ (J M_M_empty Q 87 [some (.inr (25, 0)), some (.inl (x1 + 1))] [] (m_up σ 47 x1.toNatClampNeg (0 : Int32))))) ∧ (¬ (σ 25 4) ≤ (0 : Int32) → (vp_in x1 10 ∧ (J M_M_empty Q 87 [some (.inr (25, 0)), some (.inl (x1 + 1))] [] (m_up σ 47 x1.toNatClampNeg (1 : Int32)))))))))) : J M_M_empty Q 87 [some (.inr (25, 0)), some (.inl x1)] [] σ :=
  J_iload_n (i := 1) rfl rfl d_M_empty_87 <|
  J_bipush (v := (nI 10)) d_M_empty_88 (by decide) <|
  J_icmp_ge (tgt := 121) d_M_empty_90 (by decide) (fun c14 =>
  J_iconst (v := (0 : Int32)) d_M_empty_121 (by decide) <|
  J_istore_n (i := 1) (ls' := [some (.inr (25, 0)), some (.inl (0 : Int32))]) rfl rfl rfl rfl d_M_empty_122 <|
  ((h).1 c14)) (fun c14 =>
  J_aload_n (i := 0) rfl rfl d_M_empty_93 <|
  gM_73 rfl d_M_empty_94 <|
  J_iload_n (i := 1) rfl rfl d_M_empty_97 <|
  J_iload_n (i := 1) rfl rfl d_M_empty_98 <|
  J_if_ne (tgt := 113) d_M_empty_99 (by decide) (fun c13 =>
  J_iconst (v := (0 : Int32)) d_M_empty_113 (by decide) <|
  J_iast (((((h).2 c14)).1 c13)).1 d_M_empty_114 <|
  J_iinc (i := 1) (v := (x1 + 1)) (ls' := [some (.inr (25, 0)), some (.inl (x1 + 1))]) rfl rfl rfl rfl rfl d_M_empty_115 <|
  J_goto (tgt := 87) d_M_empty_118 (by decide) <|
  (((((h).2 c14)).1 c13)).2) (fun c13 =>
  J_aload_n (i := 0) rfl rfl d_M_empty_102 <|
  gM_116 rfl d_M_empty_103 <|
  J_if_le (tgt := 113) d_M_empty_106 (by decide) (fun c12 =>
  J_iconst (v := (0 : Int32)) d_M_empty_113 (by decide) <|
  J_iast (((((((h).2 c14)).2 c13)).1 c12)).1 d_M_empty_114 <|
  J_iinc (i := 1) (v := (x1 + 1)) (ls' := [some (.inr (25, 0)), some (.inl (x1 + 1))]) rfl rfl rfl rfl rfl d_M_empty_115 <|
  J_goto (tgt := 87) d_M_empty_118 (by decide) <|
  (((((((h).2 c14)).2 c13)).1 c12)).2) (fun c12 =>
  J_iconst (v := (1 : Int32)) d_M_empty_109 (by decide) <|
  J_goto (tgt := 114) d_M_empty_110 (by decide) <|
  J_iast (((((((h).2 c14)).2 c13)).2 c12)).1 d_M_empty_114 <|
  J_iinc (i := 1) (v := (x1 + 1)) (ls' := [some (.inr (25, 0)), some (.inl (x1 + 1))]) rfl rfl rfl rfl rfl d_M_empty_115 <|
  J_goto (tgt := 87) d_M_empty_118 (by decide) <|
  (((((((h).2 c14)).2 c13)).2 c12)).2)))
theorem r_M_empty_123 {Q : Option mV → mS → Prop} {σ : mS} {x1 : Int32} (h : ((nI 1200) ≤ x1 → (Q none σ)) ∧ (¬ (nI 1200) ≤ x1 → (vp_in x1 1200 ∧ (J M_M_empty Q 123 [some (.inr (25, 0)), some (.inl (x1 + 1))] [] (m_up σ 49 x1.toNatClampNeg (-1 : Int32)))))) : J M_M_empty Q 123 [some (.inr (25, 0)), some (.inl x1)] [] σ :=
  J_iload_n (i := 1) rfl rfl d_M_empty_123 <|
  J_sipush (v := (nI 1200)) d_M_empty_124 (by decide) <|
  J_icmp_ge (tgt := 143) d_M_empty_127 (by decide) (fun c16 =>
  J_vret rfl d_M_empty_143 (((h).1 c16))) (fun c16 =>
  J_aload_n (i := 0) rfl rfl d_M_empty_130 <|
  gM_79 rfl d_M_empty_131 <|
  J_iload_n (i := 1) rfl rfl d_M_empty_134 <|
  J_iconst (v := (-1 : Int32)) d_M_empty_135 (by decide) <|
  J_iast (((h).2 c16)).1 d_M_empty_136 <|
  J_iinc (i := 1) (v := (x1 + 1)) (ls' := [some (.inr (25, 0)), some (.inl (x1 + 1))]) rfl rfl rfl rfl rfl d_M_empty_137 <|
  J_goto (tgt := 123) d_M_empty_140 (by decide) <|
  (((h).2 c16)).2)
theorem r_M_copy_0 {Q : Option mV → mS → Prop} {σ : mS} (h : J M_M_copy Q 2 [some (.inr (25, 0)), some (.inl (0 : Int32))] [] σ) : J M_M_copy Q 0 [some (.inr (25, 0)), none] [] σ :=
  J_iconst (v := (0 : Int32)) d_M_copy_0 (by decide) <|
  J_istore_n (i := 1) (ls' := [some (.inr (25, 0)), some (.inl (0 : Int32))]) rfl rfl rfl rfl d_M_copy_1 <|
  h
theorem r_M_copy_2 {Q : Option mV → mS → Prop} {σ : mS} {x1 : Int32} (h : ((nI 1260) ≤ x1 → (J M_M_copy Q 29 [some (.inr (25, 0)), some (.inl (0 : Int32))] [] σ)) ∧ (¬ (nI 1260) ≤ x1 → (vp_in x1 1260 ∧ (vp_in x1 1260 ∧ (J M_M_copy Q 2 [some (.inr (25, 0)), some (.inl (x1 + 1))] [] (m_up σ 40 x1.toNatClampNeg (σ 39 x1.toNatClampNeg))))))) : J M_M_copy Q 2 [some (.inr (25, 0)), some (.inl x1)] [] σ :=
  J_iload_n (i := 1) rfl rfl d_M_copy_2 <|
  J_sipush (v := (nI 1260)) d_M_copy_3 (by decide) <|
  J_icmp_ge (tgt := 27) d_M_copy_6 (by decide) (fun c2 =>
  J_iconst (v := (0 : Int32)) d_M_copy_27 (by decide) <|
  J_istore_n (i := 1) (ls' := [some (.inr (25, 0)), some (.inl (0 : Int32))]) rfl rfl rfl rfl d_M_copy_28 <|
  ((h).1 c2)) (fun c2 =>
  J_aload_n (i := 0) rfl rfl d_M_copy_9 <|
  gM_52 rfl d_M_copy_10 <|
  J_iload_n (i := 1) rfl rfl d_M_copy_13 <|
  J_aload_n (i := 0) rfl rfl d_M_copy_14 <|
  gM_49 rfl d_M_copy_15 <|
  J_iload_n (i := 1) rfl rfl d_M_copy_18 <|
  J_iald (((h).2 c2)).1 d_M_copy_19 <|
  J_iast ((((h).2 c2)).2).1 d_M_copy_20 <|
  J_iinc (i := 1) (v := (x1 + 1)) (ls' := [some (.inr (25, 0)), some (.inl (x1 + 1))]) rfl rfl rfl rfl rfl d_M_copy_21 <|
  J_goto (tgt := 2) d_M_copy_24 (by decide) <|
  ((((h).2 c2)).2).2)
theorem r_M_copy_29 {Q : Option mV → mS → Prop} {σ : mS} {x1 : Int32} (h : ((nI 160) ≤ x1 → (J M_M_copy Q 56 [some (.inr (25, 0)), some (.inl (0 : Int32))] [] σ)) ∧ (¬ (nI 160) ≤ x1 → (vp_in x1 160 ∧ (vp_in x1 160 ∧ (J M_M_copy Q 29 [some (.inr (25, 0)), some (.inl (x1 + 1))] [] (m_up σ 42 x1.toNatClampNeg (σ 41 x1.toNatClampNeg))))))) : J M_M_copy Q 29 [some (.inr (25, 0)), some (.inl x1)] [] σ :=
  J_iload_n (i := 1) rfl rfl d_M_copy_29 <|
  J_sipush (v := (nI 160)) d_M_copy_30 (by decide) <|
  J_icmp_ge (tgt := 54) d_M_copy_33 (by decide) (fun c4 =>
  J_iconst (v := (0 : Int32)) d_M_copy_54 (by decide) <|
  J_istore_n (i := 1) (ls' := [some (.inr (25, 0)), some (.inl (0 : Int32))]) rfl rfl rfl rfl d_M_copy_55 <|
  ((h).1 c4)) (fun c4 =>
  J_aload_n (i := 0) rfl rfl d_M_copy_36 <|
  gM_58 rfl d_M_copy_37 <|
  J_iload_n (i := 1) rfl rfl d_M_copy_40 <|
  J_aload_n (i := 0) rfl rfl d_M_copy_41 <|
  gM_55 rfl d_M_copy_42 <|
  J_iload_n (i := 1) rfl rfl d_M_copy_45 <|
  J_iald (((h).2 c4)).1 d_M_copy_46 <|
  J_iast ((((h).2 c4)).2).1 d_M_copy_47 <|
  J_iinc (i := 1) (v := (x1 + 1)) (ls' := [some (.inr (25, 0)), some (.inl (x1 + 1))]) rfl rfl rfl rfl rfl d_M_copy_48 <|
  J_goto (tgt := 29) d_M_copy_51 (by decide) <|
  ((((h).2 c4)).2).2)
theorem r_M_copy_56 {Q : Option mV → mS → Prop} {σ : mS} {x1 : Int32} (h : ((nI 20) ≤ x1 → (J M_M_copy Q 82 [some (.inr (25, 0)), some (.inl (0 : Int32))] [] σ)) ∧ (¬ (nI 20) ≤ x1 → (vp_in x1 20 ∧ (vp_in x1 20 ∧ (J M_M_copy Q 56 [some (.inr (25, 0)), some (.inl (x1 + 1))] [] (m_up σ 44 x1.toNatClampNeg (σ 43 x1.toNatClampNeg))))))) : J M_M_copy Q 56 [some (.inr (25, 0)), some (.inl x1)] [] σ :=
  J_iload_n (i := 1) rfl rfl d_M_copy_56 <|
  J_bipush (v := (nI 20)) d_M_copy_57 (by decide) <|
  J_icmp_ge (tgt := 80) d_M_copy_59 (by decide) (fun c6 =>
  J_iconst (v := (0 : Int32)) d_M_copy_80 (by decide) <|
  J_istore_n (i := 1) (ls' := [some (.inr (25, 0)), some (.inl (0 : Int32))]) rfl rfl rfl rfl d_M_copy_81 <|
  ((h).1 c6)) (fun c6 =>
  J_aload_n (i := 0) rfl rfl d_M_copy_62 <|
  gM_64 rfl d_M_copy_63 <|
  J_iload_n (i := 1) rfl rfl d_M_copy_66 <|
  J_aload_n (i := 0) rfl rfl d_M_copy_67 <|
  gM_61 rfl d_M_copy_68 <|
  J_iload_n (i := 1) rfl rfl d_M_copy_71 <|
  J_iald (((h).2 c6)).1 d_M_copy_72 <|
  J_iast ((((h).2 c6)).2).1 d_M_copy_73 <|
  J_iinc (i := 1) (v := (x1 + 1)) (ls' := [some (.inr (25, 0)), some (.inl (x1 + 1))]) rfl rfl rfl rfl rfl d_M_copy_74 <|
  J_goto (tgt := 56) d_M_copy_77 (by decide) <|
  ((((h).2 c6)).2).2)
theorem r_M_copy_82 {Q : Option mV → mS → Prop} {σ : mS} {x1 : Int32} (h : ((nI 4) ≤ x1 → (J M_M_copy Q 107 [some (.inr (25, 0)), some (.inl (0 : Int32))] [] σ)) ∧ (¬ (nI 4) ≤ x1 → (vp_in x1 4 ∧ (vp_in x1 4 ∧ (J M_M_copy Q 82 [some (.inr (25, 0)), some (.inl (x1 + 1))] [] (m_up σ 46 x1.toNatClampNeg (σ 45 x1.toNatClampNeg))))))) : J M_M_copy Q 82 [some (.inr (25, 0)), some (.inl x1)] [] σ :=
  J_iload_n (i := 1) rfl rfl d_M_copy_82 <|
  J_iconst (v := (nI 4)) d_M_copy_83 (by decide) <|
  J_icmp_ge (tgt := 105) d_M_copy_84 (by decide) (fun c8 =>
  J_iconst (v := (0 : Int32)) d_M_copy_105 (by decide) <|
  J_istore_n (i := 1) (ls' := [some (.inr (25, 0)), some (.inl (0 : Int32))]) rfl rfl rfl rfl d_M_copy_106 <|
  ((h).1 c8)) (fun c8 =>
  J_aload_n (i := 0) rfl rfl d_M_copy_87 <|
  gM_70 rfl d_M_copy_88 <|
  J_iload_n (i := 1) rfl rfl d_M_copy_91 <|
  J_aload_n (i := 0) rfl rfl d_M_copy_92 <|
  gM_67 rfl d_M_copy_93 <|
  J_iload_n (i := 1) rfl rfl d_M_copy_96 <|
  J_iald (((h).2 c8)).1 d_M_copy_97 <|
  J_iast ((((h).2 c8)).2).1 d_M_copy_98 <|
  J_iinc (i := 1) (v := (x1 + 1)) (ls' := [some (.inr (25, 0)), some (.inl (x1 + 1))]) rfl rfl rfl rfl rfl d_M_copy_99 <|
  J_goto (tgt := 82) d_M_copy_102 (by decide) <|
  ((((h).2 c8)).2).2)
theorem r_M_copy_107 {Q : Option mV → mS → Prop} {σ : mS} {x1 : Int32} (h : ((nI 10) ≤ x1 → (Q none σ)) ∧ (¬ (nI 10) ≤ x1 → (vp_in x1 10 ∧ (vp_in x1 10 ∧ (J M_M_copy Q 107 [some (.inr (25, 0)), some (.inl (x1 + 1))] [] (m_up σ 48 x1.toNatClampNeg (σ 47 x1.toNatClampNeg))))))) : J M_M_copy Q 107 [some (.inr (25, 0)), some (.inl x1)] [] σ :=
  J_iload_n (i := 1) rfl rfl d_M_copy_107 <|
  J_bipush (v := (nI 10)) d_M_copy_108 (by decide) <|
  J_icmp_ge (tgt := 131) d_M_copy_110 (by decide) (fun c10 =>
  J_vret rfl d_M_copy_131 (((h).1 c10))) (fun c10 =>
  J_aload_n (i := 0) rfl rfl d_M_copy_113 <|
  gM_76 rfl d_M_copy_114 <|
  J_iload_n (i := 1) rfl rfl d_M_copy_117 <|
  J_aload_n (i := 0) rfl rfl d_M_copy_118 <|
  gM_73 rfl d_M_copy_119 <|
  J_iload_n (i := 1) rfl rfl d_M_copy_122 <|
  J_iald (((h).2 c10)).1 d_M_copy_123 <|
  J_iast ((((h).2 c10)).2).1 d_M_copy_124 <|
  J_iinc (i := 1) (v := (x1 + 1)) (ls' := [some (.inr (25, 0)), some (.inl (x1 + 1))]) rfl rfl rfl rfl rfl d_M_copy_125 <|
  J_goto (tgt := 107) d_M_copy_128 (by decide) <|
  ((((h).2 c10)).2).2)
theorem r_M_isSame_0 {Q : Option mV → mS → Prop} {σ : mS} (h : J M_M_isSame Q 4 [some (.inr (25, 0)), some (.inl (1 : Int32)), some (.inl (0 : Int32))] [] σ) : J M_M_isSame Q 0 [some (.inr (25, 0)), none, none] [] σ :=
  J_iconst (v := (1 : Int32)) d_M_isSame_0 (by decide) <|
  J_istore_n (i := 1) (ls' := [some (.inr (25, 0)), some (.inl (1 : Int32)), none]) rfl rfl rfl rfl d_M_isSame_1 <|
  J_iconst (v := (0 : Int32)) d_M_isSame_2 (by decide) <|
  J_istore_n (i := 2) (ls' := [some (.inr (25, 0)), some (.inl (1 : Int32)), some (.inl (0 : Int32))]) rfl rfl rfl rfl d_M_isSame_3 <|
  h
theorem r_M_isSame_4 {Q : Option mV → mS → Prop} {σ : mS} {x1 x2 : Int32} (h : ((nI 1260) ≤ x2 → (J M_M_isSame Q 44 [some (.inr (25, 0)), some (.inl x1), some (.inl (0 : Int32))] [] σ)) ∧ (¬ (nI 1260) ≤ x2 → ((x1 = (0 : Int32) → (J M_M_isSame Q 4 [some (.inr (25, 0)), some (.inl (0 : Int32)), some (.inl (x2 + 1))] [] σ)) ∧ (¬ x1 = (0 : Int32) → (vp_in x2 1260 ∧ (vp_in x2 1260 ∧ ((¬ (σ 40 x2.toNatClampNeg) = (σ 39 x2.toNatClampNeg) → (J M_M_isSame Q 4 [some (.inr (25, 0)), some (.inl (0 : Int32)), some (.inl (x2 + 1))] [] σ)) ∧ ((σ 40 x2.toNatClampNeg) = (σ 39 x2.toNatClampNeg) → (J M_M_isSame Q 4 [some (.inr (25, 0)), some (.inl (1 : Int32)), some (.inl (x2 + 1))] [] σ))))))))) : J M_M_isSame Q 4 [some (.inr (25, 0)), some (.inl x1), some (.inl x2)] [] σ :=
  J_iload_n (i := 2) rfl rfl d_M_isSame_4 <|
  J_sipush (v := (nI 1260)) d_M_isSame_5 (by decide) <|
  J_icmp_ge (tgt := 42) d_M_isSame_8 (by decide) (fun c3 =>
  J_iconst (v := (0 : Int32)) d_M_isSame_42 (by decide) <|
  J_istore_n (i := 2) (ls' := [some (.inr (25, 0)), some (.inl x1), some (.inl (0 : Int32))]) rfl rfl rfl rfl d_M_isSame_43 <|
  ((h).1 c3)) (fun c3 =>
  J_iload_n (i := 1) rfl rfl d_M_isSame_11 <|
  J_if_eq (tgt := 34) d_M_isSame_12 (by decide) (fun c2 =>
  J_iconst (v := (0 : Int32)) d_M_isSame_34 (by decide) <|
  J_istore_n (i := 1) (ls' := [some (.inr (25, 0)), some (.inl (0 : Int32)), some (.inl x2)]) rfl rfl rfl rfl d_M_isSame_35 <|
  J_iinc (i := 2) (v := (x2 + 1)) (ls' := [some (.inr (25, 0)), some (.inl (0 : Int32)), some (.inl (x2 + 1))]) rfl rfl rfl rfl rfl d_M_isSame_36 <|
  J_goto (tgt := 4) d_M_isSame_39 (by decide) <|
  ((((h).2 c3)).1 c2)) (fun c2 =>
  J_aload_n (i := 0) rfl rfl d_M_isSame_15 <|
  gM_52 rfl d_M_isSame_16 <|
  J_iload_n (i := 2) rfl rfl d_M_isSame_19 <|
  J_iald (((((h).2 c3)).2 c2)).1 d_M_isSame_20 <|
  J_aload_n (i := 0) rfl rfl d_M_isSame_21 <|
  gM_49 rfl d_M_isSame_22 <|
  J_iload_n (i := 2) rfl rfl d_M_isSame_25 <|
  J_iald ((((((h).2 c3)).2 c2)).2).1 d_M_isSame_26 <|
  J_icmp_ne (tgt := 34) d_M_isSame_27 (by decide) (fun c1 =>
  J_iconst (v := (0 : Int32)) d_M_isSame_34 (by decide) <|
  J_istore_n (i := 1) (ls' := [some (.inr (25, 0)), some (.inl (0 : Int32)), some (.inl x2)]) rfl rfl rfl rfl d_M_isSame_35 <|
  J_iinc (i := 2) (v := (x2 + 1)) (ls' := [some (.inr (25, 0)), some (.inl (0 : Int32)), some (.inl (x2 + 1))]) rfl rfl rfl rfl rfl d_M_isSame_36 <|
  J_goto (tgt := 4) d_M_isSame_39 (by decide) <|
  ((((((((h).2 c3)).2 c2)).2).2).1 c1)) (fun c1 =>
  J_iconst (v := (1 : Int32)) d_M_isSame_30 (by decide) <|
  J_goto (tgt := 35) d_M_isSame_31 (by decide) <|
  J_istore_n (i := 1) (ls' := [some (.inr (25, 0)), some (.inl (1 : Int32)), some (.inl x2)]) rfl rfl rfl rfl d_M_isSame_35 <|
  J_iinc (i := 2) (v := (x2 + 1)) (ls' := [some (.inr (25, 0)), some (.inl (1 : Int32)), some (.inl (x2 + 1))]) rfl rfl rfl rfl rfl d_M_isSame_36 <|
  J_goto (tgt := 4) d_M_isSame_39 (by decide) <|
  ((((((((h).2 c3)).2 c2)).2).2).2 c1))))
theorem r_M_isSame_44 {Q : Option mV → mS → Prop} {σ : mS} {x1 x2 : Int32} (h : ((nI 160) ≤ x2 → (J M_M_isSame Q 84 [some (.inr (25, 0)), some (.inl x1), some (.inl (0 : Int32))] [] σ)) ∧ (¬ (nI 160) ≤ x2 → ((x1 = (0 : Int32) → (J M_M_isSame Q 44 [some (.inr (25, 0)), some (.inl (0 : Int32)), some (.inl (x2 + 1))] [] σ)) ∧ (¬ x1 = (0 : Int32) → (vp_in x2 160 ∧ (vp_in x2 160 ∧ ((¬ (σ 42 x2.toNatClampNeg) = (σ 41 x2.toNatClampNeg) → (J M_M_isSame Q 44 [some (.inr (25, 0)), some (.inl (0 : Int32)), some (.inl (x2 + 1))] [] σ)) ∧ ((σ 42 x2.toNatClampNeg) = (σ 41 x2.toNatClampNeg) → (J M_M_isSame Q 44 [some (.inr (25, 0)), some (.inl (1 : Int32)), some (.inl (x2 + 1))] [] σ))))))))) : J M_M_isSame Q 44 [some (.inr (25, 0)), some (.inl x1), some (.inl x2)] [] σ :=
  J_iload_n (i := 2) rfl rfl d_M_isSame_44 <|
  J_sipush (v := (nI 160)) d_M_isSame_45 (by decide) <|
  J_icmp_ge (tgt := 82) d_M_isSame_48 (by decide) (fun c6 =>
  J_iconst (v := (0 : Int32)) d_M_isSame_82 (by decide) <|
  J_istore_n (i := 2) (ls' := [some (.inr (25, 0)), some (.inl x1), some (.inl (0 : Int32))]) rfl rfl rfl rfl d_M_isSame_83 <|
  ((h).1 c6)) (fun c6 =>
  J_iload_n (i := 1) rfl rfl d_M_isSame_51 <|
  J_if_eq (tgt := 74) d_M_isSame_52 (by decide) (fun c5 =>
  J_iconst (v := (0 : Int32)) d_M_isSame_74 (by decide) <|
  J_istore_n (i := 1) (ls' := [some (.inr (25, 0)), some (.inl (0 : Int32)), some (.inl x2)]) rfl rfl rfl rfl d_M_isSame_75 <|
  J_iinc (i := 2) (v := (x2 + 1)) (ls' := [some (.inr (25, 0)), some (.inl (0 : Int32)), some (.inl (x2 + 1))]) rfl rfl rfl rfl rfl d_M_isSame_76 <|
  J_goto (tgt := 44) d_M_isSame_79 (by decide) <|
  ((((h).2 c6)).1 c5)) (fun c5 =>
  J_aload_n (i := 0) rfl rfl d_M_isSame_55 <|
  gM_58 rfl d_M_isSame_56 <|
  J_iload_n (i := 2) rfl rfl d_M_isSame_59 <|
  J_iald (((((h).2 c6)).2 c5)).1 d_M_isSame_60 <|
  J_aload_n (i := 0) rfl rfl d_M_isSame_61 <|
  gM_55 rfl d_M_isSame_62 <|
  J_iload_n (i := 2) rfl rfl d_M_isSame_65 <|
  J_iald ((((((h).2 c6)).2 c5)).2).1 d_M_isSame_66 <|
  J_icmp_ne (tgt := 74) d_M_isSame_67 (by decide) (fun c4 =>
  J_iconst (v := (0 : Int32)) d_M_isSame_74 (by decide) <|
  J_istore_n (i := 1) (ls' := [some (.inr (25, 0)), some (.inl (0 : Int32)), some (.inl x2)]) rfl rfl rfl rfl d_M_isSame_75 <|
  J_iinc (i := 2) (v := (x2 + 1)) (ls' := [some (.inr (25, 0)), some (.inl (0 : Int32)), some (.inl (x2 + 1))]) rfl rfl rfl rfl rfl d_M_isSame_76 <|
  J_goto (tgt := 44) d_M_isSame_79 (by decide) <|
  ((((((((h).2 c6)).2 c5)).2).2).1 c4)) (fun c4 =>
  J_iconst (v := (1 : Int32)) d_M_isSame_70 (by decide) <|
  J_goto (tgt := 75) d_M_isSame_71 (by decide) <|
  J_istore_n (i := 1) (ls' := [some (.inr (25, 0)), some (.inl (1 : Int32)), some (.inl x2)]) rfl rfl rfl rfl d_M_isSame_75 <|
  J_iinc (i := 2) (v := (x2 + 1)) (ls' := [some (.inr (25, 0)), some (.inl (1 : Int32)), some (.inl (x2 + 1))]) rfl rfl rfl rfl rfl d_M_isSame_76 <|
  J_goto (tgt := 44) d_M_isSame_79 (by decide) <|
  ((((((((h).2 c6)).2 c5)).2).2).2 c4))))
theorem r_M_isSame_84 {Q : Option mV → mS → Prop} {σ : mS} {x1 x2 : Int32} (h : ((nI 20) ≤ x2 → (J M_M_isSame Q 123 [some (.inr (25, 0)), some (.inl x1), some (.inl (0 : Int32))] [] σ)) ∧ (¬ (nI 20) ≤ x2 → ((x1 = (0 : Int32) → (J M_M_isSame Q 84 [some (.inr (25, 0)), some (.inl (0 : Int32)), some (.inl (x2 + 1))] [] σ)) ∧ (¬ x1 = (0 : Int32) → (vp_in x2 20 ∧ (vp_in x2 20 ∧ ((¬ (σ 44 x2.toNatClampNeg) = (σ 43 x2.toNatClampNeg) → (J M_M_isSame Q 84 [some (.inr (25, 0)), some (.inl (0 : Int32)), some (.inl (x2 + 1))] [] σ)) ∧ ((σ 44 x2.toNatClampNeg) = (σ 43 x2.toNatClampNeg) → (J M_M_isSame Q 84 [some (.inr (25, 0)), some (.inl (1 : Int32)), some (.inl (x2 + 1))] [] σ))))))))) : J M_M_isSame Q 84 [some (.inr (25, 0)), some (.inl x1), some (.inl x2)] [] σ :=
  J_iload_n (i := 2) rfl rfl d_M_isSame_84 <|
  J_bipush (v := (nI 20)) d_M_isSame_85 (by decide) <|
  J_icmp_ge (tgt := 121) d_M_isSame_87 (by decide) (fun c9 =>
  J_iconst (v := (0 : Int32)) d_M_isSame_121 (by decide) <|
  J_istore_n (i := 2) (ls' := [some (.inr (25, 0)), some (.inl x1), some (.inl (0 : Int32))]) rfl rfl rfl rfl d_M_isSame_122 <|
  ((h).1 c9)) (fun c9 =>
  J_iload_n (i := 1) rfl rfl d_M_isSame_90 <|
  J_if_eq (tgt := 113) d_M_isSame_91 (by decide) (fun c8 =>
  J_iconst (v := (0 : Int32)) d_M_isSame_113 (by decide) <|
  J_istore_n (i := 1) (ls' := [some (.inr (25, 0)), some (.inl (0 : Int32)), some (.inl x2)]) rfl rfl rfl rfl d_M_isSame_114 <|
  J_iinc (i := 2) (v := (x2 + 1)) (ls' := [some (.inr (25, 0)), some (.inl (0 : Int32)), some (.inl (x2 + 1))]) rfl rfl rfl rfl rfl d_M_isSame_115 <|
  J_goto (tgt := 84) d_M_isSame_118 (by decide) <|
  ((((h).2 c9)).1 c8)) (fun c8 =>
  J_aload_n (i := 0) rfl rfl d_M_isSame_94 <|
  gM_64 rfl d_M_isSame_95 <|
  J_iload_n (i := 2) rfl rfl d_M_isSame_98 <|
  J_iald (((((h).2 c9)).2 c8)).1 d_M_isSame_99 <|
  J_aload_n (i := 0) rfl rfl d_M_isSame_100 <|
  gM_61 rfl d_M_isSame_101 <|
  J_iload_n (i := 2) rfl rfl d_M_isSame_104 <|
  J_iald ((((((h).2 c9)).2 c8)).2).1 d_M_isSame_105 <|
  J_icmp_ne (tgt := 113) d_M_isSame_106 (by decide) (fun c7 =>
  J_iconst (v := (0 : Int32)) d_M_isSame_113 (by decide) <|
  J_istore_n (i := 1) (ls' := [some (.inr (25, 0)), some (.inl (0 : Int32)), some (.inl x2)]) rfl rfl rfl rfl d_M_isSame_114 <|
  J_iinc (i := 2) (v := (x2 + 1)) (ls' := [some (.inr (25, 0)), some (.inl (0 : Int32)), some (.inl (x2 + 1))]) rfl rfl rfl rfl rfl d_M_isSame_115 <|
  J_goto (tgt := 84) d_M_isSame_118 (by decide) <|
  ((((((((h).2 c9)).2 c8)).2).2).1 c7)) (fun c7 =>
  J_iconst (v := (1 : Int32)) d_M_isSame_109 (by decide) <|
  J_goto (tgt := 114) d_M_isSame_110 (by decide) <|
  J_istore_n (i := 1) (ls' := [some (.inr (25, 0)), some (.inl (1 : Int32)), some (.inl x2)]) rfl rfl rfl rfl d_M_isSame_114 <|
  J_iinc (i := 2) (v := (x2 + 1)) (ls' := [some (.inr (25, 0)), some (.inl (1 : Int32)), some (.inl (x2 + 1))]) rfl rfl rfl rfl rfl d_M_isSame_115 <|
  J_goto (tgt := 84) d_M_isSame_118 (by decide) <|
  ((((((((h).2 c9)).2 c8)).2).2).2 c7))))
theorem r_M_isSame_123 {Q : Option mV → mS → Prop} {σ : mS} {x1 x2 : Int32} (h : ((nI 4) ≤ x2 → (J M_M_isSame Q 161 [some (.inr (25, 0)), some (.inl x1), some (.inl (0 : Int32))] [] σ)) ∧ (¬ (nI 4) ≤ x2 → ((x1 = (0 : Int32) → (J M_M_isSame Q 123 [some (.inr (25, 0)), some (.inl (0 : Int32)), some (.inl (x2 + 1))] [] σ)) ∧ (¬ x1 = (0 : Int32) → (vp_in x2 4 ∧ (vp_in x2 4 ∧ ((¬ (σ 46 x2.toNatClampNeg) = (σ 45 x2.toNatClampNeg) → (J M_M_isSame Q 123 [some (.inr (25, 0)), some (.inl (0 : Int32)), some (.inl (x2 + 1))] [] σ)) ∧ ((σ 46 x2.toNatClampNeg) = (σ 45 x2.toNatClampNeg) → (J M_M_isSame Q 123 [some (.inr (25, 0)), some (.inl (1 : Int32)), some (.inl (x2 + 1))] [] σ))))))))) : J M_M_isSame Q 123 [some (.inr (25, 0)), some (.inl x1), some (.inl x2)] [] σ :=
  J_iload_n (i := 2) rfl rfl d_M_isSame_123 <|
  J_iconst (v := (nI 4)) d_M_isSame_124 (by decide) <|
  J_icmp_ge (tgt := 159) d_M_isSame_125 (by decide) (fun c12 =>
  J_iconst (v := (0 : Int32)) d_M_isSame_159 (by decide) <|
  J_istore_n (i := 2) (ls' := [some (.inr (25, 0)), some (.inl x1), some (.inl (0 : Int32))]) rfl rfl rfl rfl d_M_isSame_160 <|
  ((h).1 c12)) (fun c12 =>
  J_iload_n (i := 1) rfl rfl d_M_isSame_128 <|
  J_if_eq (tgt := 151) d_M_isSame_129 (by decide) (fun c11 =>
  J_iconst (v := (0 : Int32)) d_M_isSame_151 (by decide) <|
  J_istore_n (i := 1) (ls' := [some (.inr (25, 0)), some (.inl (0 : Int32)), some (.inl x2)]) rfl rfl rfl rfl d_M_isSame_152 <|
  J_iinc (i := 2) (v := (x2 + 1)) (ls' := [some (.inr (25, 0)), some (.inl (0 : Int32)), some (.inl (x2 + 1))]) rfl rfl rfl rfl rfl d_M_isSame_153 <|
  J_goto (tgt := 123) d_M_isSame_156 (by decide) <|
  ((((h).2 c12)).1 c11)) (fun c11 =>
  J_aload_n (i := 0) rfl rfl d_M_isSame_132 <|
  gM_70 rfl d_M_isSame_133 <|
  J_iload_n (i := 2) rfl rfl d_M_isSame_136 <|
  J_iald (((((h).2 c12)).2 c11)).1 d_M_isSame_137 <|
  J_aload_n (i := 0) rfl rfl d_M_isSame_138 <|
  gM_67 rfl d_M_isSame_139 <|
  J_iload_n (i := 2) rfl rfl d_M_isSame_142 <|
  J_iald ((((((h).2 c12)).2 c11)).2).1 d_M_isSame_143 <|
  J_icmp_ne (tgt := 151) d_M_isSame_144 (by decide) (fun c10 =>
  J_iconst (v := (0 : Int32)) d_M_isSame_151 (by decide) <|
  J_istore_n (i := 1) (ls' := [some (.inr (25, 0)), some (.inl (0 : Int32)), some (.inl x2)]) rfl rfl rfl rfl d_M_isSame_152 <|
  J_iinc (i := 2) (v := (x2 + 1)) (ls' := [some (.inr (25, 0)), some (.inl (0 : Int32)), some (.inl (x2 + 1))]) rfl rfl rfl rfl rfl d_M_isSame_153 <|
  J_goto (tgt := 123) d_M_isSame_156 (by decide) <|
  ((((((((h).2 c12)).2 c11)).2).2).1 c10)) (fun c10 =>
  J_iconst (v := (1 : Int32)) d_M_isSame_147 (by decide) <|
  J_goto (tgt := 152) d_M_isSame_148 (by decide) <|
  J_istore_n (i := 1) (ls' := [some (.inr (25, 0)), some (.inl (1 : Int32)), some (.inl x2)]) rfl rfl rfl rfl d_M_isSame_152 <|
  J_iinc (i := 2) (v := (x2 + 1)) (ls' := [some (.inr (25, 0)), some (.inl (1 : Int32)), some (.inl (x2 + 1))]) rfl rfl rfl rfl rfl d_M_isSame_153 <|
  J_goto (tgt := 123) d_M_isSame_156 (by decide) <|
  ((((((((h).2 c12)).2 c11)).2).2).2 c10))))
theorem r_M_isSame_161 {Q : Option mV → mS → Prop} {σ : mS} {x1 x2 : Int32} (h : ((nI 10) ≤ x2 → ((x1 = 0 ∨ x1 = 1) ∧ Q (some (.inl x1)) σ)) ∧ (¬ (nI 10) ≤ x2 → ((x1 = (0 : Int32) → (J M_M_isSame Q 161 [some (.inr (25, 0)), some (.inl (0 : Int32)), some (.inl (x2 + 1))] [] σ)) ∧ (¬ x1 = (0 : Int32) → (vp_in x2 10 ∧ (vp_in x2 10 ∧ ((¬ (σ 48 x2.toNatClampNeg) = (σ 47 x2.toNatClampNeg) → (J M_M_isSame Q 161 [some (.inr (25, 0)), some (.inl (0 : Int32)), some (.inl (x2 + 1))] [] σ)) ∧ ((σ 48 x2.toNatClampNeg) = (σ 47 x2.toNatClampNeg) → (J M_M_isSame Q 161 [some (.inr (25, 0)), some (.inl (1 : Int32)), some (.inl (x2 + 1))] [] σ))))))))) : J M_M_isSame Q 161 [some (.inr (25, 0)), some (.inl x1), some (.inl x2)] [] σ :=
  J_iload_n (i := 2) rfl rfl d_M_isSame_161 <|
  J_bipush (v := (nI 10)) d_M_isSame_162 (by decide) <|
  J_icmp_ge (tgt := 198) d_M_isSame_164 (by decide) (fun c15 =>
  J_iload_n (i := 1) rfl rfl d_M_isSame_198 <|
  J_zret rfl (((h).1 c15)).1 d_M_isSame_199 (((h).1 c15)).2) (fun c15 =>
  J_iload_n (i := 1) rfl rfl d_M_isSame_167 <|
  J_if_eq (tgt := 190) d_M_isSame_168 (by decide) (fun c14 =>
  J_iconst (v := (0 : Int32)) d_M_isSame_190 (by decide) <|
  J_istore_n (i := 1) (ls' := [some (.inr (25, 0)), some (.inl (0 : Int32)), some (.inl x2)]) rfl rfl rfl rfl d_M_isSame_191 <|
  J_iinc (i := 2) (v := (x2 + 1)) (ls' := [some (.inr (25, 0)), some (.inl (0 : Int32)), some (.inl (x2 + 1))]) rfl rfl rfl rfl rfl d_M_isSame_192 <|
  J_goto (tgt := 161) d_M_isSame_195 (by decide) <|
  ((((h).2 c15)).1 c14)) (fun c14 =>
  J_aload_n (i := 0) rfl rfl d_M_isSame_171 <|
  gM_76 rfl d_M_isSame_172 <|
  J_iload_n (i := 2) rfl rfl d_M_isSame_175 <|
  J_iald (((((h).2 c15)).2 c14)).1 d_M_isSame_176 <|
  J_aload_n (i := 0) rfl rfl d_M_isSame_177 <|
  gM_73 rfl d_M_isSame_178 <|
  J_iload_n (i := 2) rfl rfl d_M_isSame_181 <|
  J_iald ((((((h).2 c15)).2 c14)).2).1 d_M_isSame_182 <|
  J_icmp_ne (tgt := 190) d_M_isSame_183 (by decide) (fun c13 =>
  J_iconst (v := (0 : Int32)) d_M_isSame_190 (by decide) <|
  J_istore_n (i := 1) (ls' := [some (.inr (25, 0)), some (.inl (0 : Int32)), some (.inl x2)]) rfl rfl rfl rfl d_M_isSame_191 <|
  J_iinc (i := 2) (v := (x2 + 1)) (ls' := [some (.inr (25, 0)), some (.inl (0 : Int32)), some (.inl (x2 + 1))]) rfl rfl rfl rfl rfl d_M_isSame_192 <|
  J_goto (tgt := 161) d_M_isSame_195 (by decide) <|
  ((((((((h).2 c15)).2 c14)).2).2).1 c13)) (fun c13 =>
  J_iconst (v := (1 : Int32)) d_M_isSame_186 (by decide) <|
  J_goto (tgt := 191) d_M_isSame_187 (by decide) <|
  J_istore_n (i := 1) (ls' := [some (.inr (25, 0)), some (.inl (1 : Int32)), some (.inl x2)]) rfl rfl rfl rfl d_M_isSame_191 <|
  J_iinc (i := 2) (v := (x2 + 1)) (ls' := [some (.inr (25, 0)), some (.inl (1 : Int32)), some (.inl (x2 + 1))]) rfl rfl rfl rfl rfl d_M_isSame_192 <|
  J_goto (tgt := 161) d_M_isSame_195 (by decide) <|
  ((((((((h).2 c15)).2 c14)).2).2).2 c13))))
