theorem d_M_inField_0 : decode prog_7_method_33_code 0 = .ok (.aload_n 0, 1) := by decide +kernel
theorem d_M_inField_1 : decode prog_7_method_33_code 1 = .ok (.iload_n 1, 1) := by decide +kernel
theorem d_M_inField_2 : decode prog_7_method_33_code 2 = .ok (.invokevirtual 216, 3) := by decide +kernel
theorem d_M_inField_5 : decode prog_7_method_33_code 5 = .ok (.ifCond .eq 11, 3) := by decide +kernel
theorem d_M_inField_8 : decode prog_7_method_33_code 8 = .ok (.aload_n 0, 1) := by decide +kernel
theorem d_M_inField_9 : decode prog_7_method_33_code 9 = .ok (.iload_n 2, 1) := by decide +kernel
theorem d_M_inField_10 : decode prog_7_method_33_code 10 = .ok (.invokevirtual 144, 3) := by decide +kernel
theorem d_M_inField_13 : decode prog_7_method_33_code 13 = .ok (.ifCond .ne 5, 3) := by decide +kernel
theorem d_M_inField_16 : decode prog_7_method_33_code 16 = .ok (.iconst (-1), 1) := by decide +kernel
theorem d_M_inField_17 : decode prog_7_method_33_code 17 = .ok (.ireturn, 1) := by decide +kernel
theorem d_M_inField_18 : decode prog_7_method_33_code 18 = .ok (.aload_n 0, 1) := by decide +kernel
theorem d_M_inField_19 : decode prog_7_method_33_code 19 = .ok (.invokevirtual 213, 3) := by decide +kernel
theorem d_M_inField_22 : decode prog_7_method_33_code 22 = .ok (.aload_n 0, 1) := by decide +kernel
theorem d_M_inField_23 : decode prog_7_method_33_code 23 = .ok (.getfield 55, 3) := by decide +kernel
theorem d_M_inField_26 : decode prog_7_method_33_code 26 = .ok (.bipush 8, 2) := by decide +kernel
theorem d_M_inField_28 : decode prog_7_method_33_code 28 = .ok (.iload_n 1, 1) := by decide +kernel
theorem d_M_inField_29 : decode prog_7_method_33_code 29 = .ok (.imul, 1) := by decide +kernel
theorem d_M_inField_30 : decode prog_7_method_33_code 30 = .ok (.iload_n 2, 1) := by decide +kernel
theorem d_M_inField_31 : decode prog_7_method_33_code 31 = .ok (.iadd, 1) := by decide +kernel
theorem d_M_inField_32 : decode prog_7_method_33_code 32 = .ok (.iaload, 1) := by decide +kernel
theorem d_M_inField_33 : decode prog_7_method_33_code 33 = .ok (.ireturn, 1) := by decide +kernel
theorem d_M_element_0 : decode prog_7_method_34_code 0 = .ok (.aload_n 0, 1) := by decide +kernel
theorem d_M_element_1 : decode prog_7_method_34_code 1 = .ok (.iload_n 1, 1) := by decide +kernel
theorem d_M_element_2 : decode prog_7_method_34_code 2 = .ok (.invokevirtual 216, 3) := by decide +kernel
theorem d_M_element_5 : decode prog_7_method_34_code 5 = .ok (.ifCond .ne 5, 3) := by decide +kernel
theorem d_M_element_8 : decode prog_7_method_34_code 8 = .ok (.iconst (-1), 1) := by decide +kernel
theorem d_M_element_9 : decode prog_7_method_34_code 9 = .ok (.ireturn, 1) := by decide +kernel
theorem d_M_element_10 : decode prog_7_method_34_code 10 = .ok (.aload_n 0, 1) := by decide +kernel
theorem d_M_element_11 : decode prog_7_method_34_code 11 = .ok (.invokevirtual 213, 3) := by decide +kernel
theorem d_M_element_14 : decode prog_7_method_34_code 14 = .ok (.aload_n 0, 1) := by decide +kernel
theorem d_M_element_15 : decode prog_7_method_34_code 15 = .ok (.getfield 61, 3) := by decide +kernel
theorem d_M_element_18 : decode prog_7_method_34_code 18 = .ok (.iload_n 1, 1) := by decide +kernel
theorem d_M_element_19 : decode prog_7_method_34_code 19 = .ok (.iaload, 1) := by decide +kernel
theorem d_M_element_20 : decode prog_7_method_34_code 20 = .ok (.ireturn, 1) := by decide +kernel
theorem d_M_inStatic_0 : decode prog_7_method_35_code 0 = .ok (.iload_n 1, 1) := by decide +kernel
theorem d_M_inStatic_1 : decode prog_7_method_35_code 1 = .ok (.invokestatic 147, 3) := by decide +kernel
theorem d_M_inStatic_4 : decode prog_7_method_35_code 4 = .ok (.ifCond .ne 5, 3) := by decide +kernel
theorem d_M_inStatic_7 : decode prog_7_method_35_code 7 = .ok (.iconst (-1), 1) := by decide +kernel
theorem d_M_inStatic_8 : decode prog_7_method_35_code 8 = .ok (.ireturn, 1) := by decide +kernel
theorem d_M_inStatic_9 : decode prog_7_method_35_code 9 = .ok (.aload_n 0, 1) := by decide +kernel
theorem d_M_inStatic_10 : decode prog_7_method_35_code 10 = .ok (.invokevirtual 213, 3) := by decide +kernel
theorem d_M_inStatic_13 : decode prog_7_method_35_code 13 = .ok (.aload_n 0, 1) := by decide +kernel
theorem d_M_inStatic_14 : decode prog_7_method_35_code 14 = .ok (.getfield 67, 3) := by decide +kernel
theorem d_M_inStatic_17 : decode prog_7_method_35_code 17 = .ok (.iload_n 1, 1) := by decide +kernel
theorem d_M_inStatic_18 : decode prog_7_method_35_code 18 = .ok (.iaload, 1) := by decide +kernel
theorem d_M_inStatic_19 : decode prog_7_method_35_code 19 = .ok (.ireturn, 1) := by decide +kernel
theorem d_M_reached_0 : decode prog_7_method_36_code 0 = .ok (.aload_n 0, 1) := by decide +kernel
theorem d_M_reached_1 : decode prog_7_method_36_code 1 = .ok (.iload_n 1, 1) := by decide +kernel
theorem d_M_reached_2 : decode prog_7_method_36_code 2 = .ok (.invokevirtual 150, 3) := by decide +kernel
theorem d_M_reached_5 : decode prog_7_method_36_code 5 = .ok (.ifCond .ne 5, 3) := by decide +kernel
theorem d_M_reached_8 : decode prog_7_method_36_code 8 = .ok (.iconst (-1), 1) := by decide +kernel
theorem d_M_reached_9 : decode prog_7_method_36_code 9 = .ok (.ireturn, 1) := by decide +kernel
theorem d_M_reached_10 : decode prog_7_method_36_code 10 = .ok (.aload_n 0, 1) := by decide +kernel
theorem d_M_reached_11 : decode prog_7_method_36_code 11 = .ok (.invokevirtual 213, 3) := by decide +kernel
theorem d_M_reached_14 : decode prog_7_method_36_code 14 = .ok (.iconst 0, 1) := by decide +kernel
theorem d_M_reached_15 : decode prog_7_method_36_code 15 = .ok (.istore_n 2, 1) := by decide +kernel
theorem d_M_reached_16 : decode prog_7_method_36_code 16 = .ok (.iconst 0, 1) := by decide +kernel
theorem d_M_reached_17 : decode prog_7_method_36_code 17 = .ok (.istore_n 3, 1) := by decide +kernel
theorem d_M_reached_18 : decode prog_7_method_36_code 18 = .ok (.iload_n 3, 1) := by decide +kernel
theorem d_M_reached_19 : decode prog_7_method_36_code 19 = .ok (.bipush 21, 2) := by decide +kernel
theorem d_M_reached_21 : decode prog_7_method_36_code 21 = .ok (.if_icmp .ge 22, 3) := by decide +kernel
theorem d_M_reached_24 : decode prog_7_method_36_code 24 = .ok (.iload_n 2, 1) := by decide +kernel
theorem d_M_reached_25 : decode prog_7_method_36_code 25 = .ok (.aload_n 0, 1) := by decide +kernel
theorem d_M_reached_26 : decode prog_7_method_36_code 26 = .ok (.getfield 73, 3) := by decide +kernel
theorem d_M_reached_29 : decode prog_7_method_36_code 29 = .ok (.iload_n 1, 1) := by decide +kernel
theorem d_M_reached_30 : decode prog_7_method_36_code 30 = .ok (.iaload, 1) := by decide +kernel
theorem d_M_reached_31 : decode prog_7_method_36_code 31 = .ok (.iload_n 3, 1) := by decide +kernel
theorem d_M_reached_32 : decode prog_7_method_36_code 32 = .ok (.ishr, 1) := by decide +kernel
theorem d_M_reached_33 : decode prog_7_method_36_code 33 = .ok (.iconst 1, 1) := by decide +kernel
theorem d_M_reached_34 : decode prog_7_method_36_code 34 = .ok (.iand, 1) := by decide +kernel
theorem d_M_reached_35 : decode prog_7_method_36_code 35 = .ok (.iadd, 1) := by decide +kernel
theorem d_M_reached_36 : decode prog_7_method_36_code 36 = .ok (.istore_n 2, 1) := by decide +kernel
theorem d_M_reached_37 : decode prog_7_method_36_code 37 = .ok (.iinc 3 1, 3) := by decide +kernel
theorem d_M_reached_40 : decode prog_7_method_36_code 40 = .ok (.goto (-22), 3) := by decide +kernel
theorem d_M_reached_43 : decode prog_7_method_36_code 43 = .ok (.iload_n 2, 1) := by decide +kernel
theorem d_M_reached_44 : decode prog_7_method_36_code 44 = .ok (.ireturn, 1) := by decide +kernel
theorem d_M_may_0 : decode prog_7_method_37_code 0 = .ok (.iload_n 1, 1) := by decide +kernel
theorem d_M_may_1 : decode prog_7_method_37_code 1 = .ok (.ifCond .lt 11, 3) := by decide +kernel
theorem d_M_may_4 : decode prog_7_method_37_code 4 = .ok (.iload_n 1, 1) := by decide +kernel
theorem d_M_may_5 : decode prog_7_method_37_code 5 = .ok (.aload_n 0, 1) := by decide +kernel
theorem d_M_may_6 : decode prog_7_method_37_code 6 = .ok (.getfield 157, 3) := by decide +kernel
theorem d_M_may_9 : decode prog_7_method_37_code 9 = .ok (.if_icmp .lt 5, 3) := by decide +kernel
theorem d_M_may_12 : decode prog_7_method_37_code 12 = .ok (.iconst (-1), 1) := by decide +kernel
theorem d_M_may_13 : decode prog_7_method_37_code 13 = .ok (.ireturn, 1) := by decide +kernel
theorem d_M_may_14 : decode prog_7_method_37_code 14 = .ok (.aload_n 0, 1) := by decide +kernel
theorem d_M_may_15 : decode prog_7_method_37_code 15 = .ok (.getfield 25, 3) := by decide +kernel
theorem d_M_may_18 : decode prog_7_method_37_code 18 = .ok (.iload_n 1, 1) := by decide +kernel
theorem d_M_may_19 : decode prog_7_method_37_code 19 = .ok (.iaload, 1) := by decide +kernel
theorem d_M_may_20 : decode prog_7_method_37_code 20 = .ok (.iconst 4, 1) := by decide +kernel
theorem d_M_may_21 : decode prog_7_method_37_code 21 = .ok (.if_icmp .eq 17, 3) := by decide +kernel
theorem d_M_may_24 : decode prog_7_method_37_code 24 = .ok (.aload_n 0, 1) := by decide +kernel
theorem d_M_may_25 : decode prog_7_method_37_code 25 = .ok (.getfield 25, 3) := by decide +kernel
theorem d_M_may_28 : decode prog_7_method_37_code 28 = .ok (.iload_n 1, 1) := by decide +kernel
theorem d_M_may_29 : decode prog_7_method_37_code 29 = .ok (.iaload, 1) := by decide +kernel
theorem d_M_may_30 : decode prog_7_method_37_code 30 = .ok (.bipush 7, 2) := by decide +kernel
theorem d_M_may_32 : decode prog_7_method_37_code 32 = .ok (.if_icmp .eq 6, 3) := by decide +kernel
theorem d_M_may_35 : decode prog_7_method_37_code 35 = .ok (.bipush (-3), 2) := by decide +kernel
theorem d_M_may_37 : decode prog_7_method_37_code 37 = .ok (.ireturn, 1) := by decide +kernel
theorem d_M_may_38 : decode prog_7_method_37_code 38 = .ok (.aload_n 0, 1) := by decide +kernel
theorem d_M_may_39 : decode prog_7_method_37_code 39 = .ok (.invokevirtual 213, 3) := by decide +kernel
theorem d_M_may_42 : decode prog_7_method_37_code 42 = .ok (.aload_n 0, 1) := by decide +kernel
theorem d_M_may_43 : decode prog_7_method_37_code 43 = .ok (.aload_n 0, 1) := by decide +kernel
theorem d_M_may_44 : decode prog_7_method_37_code 44 = .ok (.getfield 22, 3) := by decide +kernel
theorem d_M_may_47 : decode prog_7_method_37_code 47 = .ok (.iload_n 1, 1) := by decide +kernel
theorem d_M_may_48 : decode prog_7_method_37_code 48 = .ok (.iaload, 1) := by decide +kernel
theorem d_M_may_49 : decode prog_7_method_37_code 49 = .ok (.aload_n 0, 1) := by decide +kernel
theorem d_M_may_50 : decode prog_7_method_37_code 50 = .ok (.getfield 31, 3) := by decide +kernel
theorem d_M_may_53 : decode prog_7_method_37_code 53 = .ok (.iload_n 1, 1) := by decide +kernel
theorem d_M_may_54 : decode prog_7_method_37_code 54 = .ok (.iaload, 1) := by decide +kernel
theorem d_M_may_55 : decode prog_7_method_37_code 55 = .ok (.invokevirtual 183, 3) := by decide +kernel
theorem d_M_may_58 : decode prog_7_method_37_code 58 = .ok (.istore_n 2, 1) := by decide +kernel
theorem d_M_may_59 : decode prog_7_method_37_code 59 = .ok (.iconst 0, 1) := by decide +kernel
theorem d_M_may_60 : decode prog_7_method_37_code 60 = .ok (.istore_n 3, 1) := by decide +kernel
theorem d_M_may_61 : decode prog_7_method_37_code 61 = .ok (.iconst 0, 1) := by decide +kernel
theorem d_M_may_62 : decode prog_7_method_37_code 62 = .ok (.istore 4, 2) := by decide +kernel
theorem d_M_may_64 : decode prog_7_method_37_code 64 = .ok (.iload 4, 2) := by decide +kernel
theorem d_M_may_66 : decode prog_7_method_37_code 66 = .ok (.aload_n 0, 1) := by decide +kernel
theorem d_M_may_67 : decode prog_7_method_37_code 67 = .ok (.getfield 160, 3) := by decide +kernel
theorem d_M_may_70 : decode prog_7_method_37_code 70 = .ok (.if_icmp .ge 100, 3) := by decide +kernel
theorem d_M_may_73 : decode prog_7_method_37_code 73 = .ok (.iload_n 2, 1) := by decide +kernel
theorem d_M_may_74 : decode prog_7_method_37_code 74 = .ok (.iload 4, 2) := by decide +kernel
theorem d_M_may_76 : decode prog_7_method_37_code 76 = .ok (.ishr, 1) := by decide +kernel
theorem d_M_may_77 : decode prog_7_method_37_code 77 = .ok (.iconst 1, 1) := by decide +kernel
theorem d_M_may_78 : decode prog_7_method_37_code 78 = .ok (.iand, 1) := by decide +kernel
theorem d_M_may_79 : decode prog_7_method_37_code 79 = .ok (.ifCond .ne 6, 3) := by decide +kernel
theorem d_M_may_82 : decode prog_7_method_37_code 82 = .ok (.goto 82, 3) := by decide +kernel
theorem d_M_may_85 : decode prog_7_method_37_code 85 = .ok (.aload_n 0, 1) := by decide +kernel
theorem d_M_may_86 : decode prog_7_method_37_code 86 = .ok (.getfield 25, 3) := by decide +kernel
theorem d_M_may_89 : decode prog_7_method_37_code 89 = .ok (.iload_n 1, 1) := by decide +kernel
theorem d_M_may_90 : decode prog_7_method_37_code 90 = .ok (.iaload, 1) := by decide +kernel
theorem d_M_may_91 : decode prog_7_method_37_code 91 = .ok (.iconst 4, 1) := by decide +kernel
theorem d_M_may_92 : decode prog_7_method_37_code 92 = .ok (.if_icmp .ne 37, 3) := by decide +kernel
theorem d_M_may_95 : decode prog_7_method_37_code 95 = .ok (.iload_n 3, 1) := by decide +kernel
theorem d_M_may_96 : decode prog_7_method_37_code 96 = .ok (.aload_n 0, 1) := by decide +kernel
theorem d_M_may_97 : decode prog_7_method_37_code 97 = .ok (.aload_n 0, 1) := by decide +kernel
theorem d_M_may_98 : decode prog_7_method_37_code 98 = .ok (.getfield 46, 3) := by decide +kernel
theorem d_M_may_101 : decode prog_7_method_37_code 101 = .ok (.iload 4, 2) := by decide +kernel
theorem d_M_may_103 : decode prog_7_method_37_code 103 = .ok (.iaload, 1) := by decide +kernel
theorem d_M_may_104 : decode prog_7_method_37_code 104 = .ok (.aload_n 0, 1) := by decide +kernel
theorem d_M_may_105 : decode prog_7_method_37_code 105 = .ok (.getfield 34, 3) := by decide +kernel
theorem d_M_may_108 : decode prog_7_method_37_code 108 = .ok (.iload_n 1, 1) := by decide +kernel
theorem d_M_may_109 : decode prog_7_method_37_code 109 = .ok (.iaload, 1) := by decide +kernel
theorem d_M_may_110 : decode prog_7_method_37_code 110 = .ok (.invokevirtual 119, 3) := by decide +kernel
theorem d_M_may_113 : decode prog_7_method_37_code 113 = .ok (.ifCond .eq 7, 3) := by decide +kernel
theorem d_M_may_116 : decode prog_7_method_37_code 116 = .ok (.iconst 0, 1) := by decide +kernel
theorem d_M_may_117 : decode prog_7_method_37_code 117 = .ok (.goto 7, 3) := by decide +kernel
theorem d_M_may_120 : decode prog_7_method_37_code 120 = .ok (.iconst 1, 1) := by decide +kernel
theorem d_M_may_121 : decode prog_7_method_37_code 121 = .ok (.iload 4, 2) := by decide +kernel
theorem d_M_may_123 : decode prog_7_method_37_code 123 = .ok (.ishl, 1) := by decide +kernel
theorem d_M_may_124 : decode prog_7_method_37_code 124 = .ok (.ior, 1) := by decide +kernel
theorem d_M_may_125 : decode prog_7_method_37_code 125 = .ok (.istore_n 3, 1) := by decide +kernel
theorem d_M_may_126 : decode prog_7_method_37_code 126 = .ok (.goto 38, 3) := by decide +kernel
theorem d_M_may_129 : decode prog_7_method_37_code 129 = .ok (.aload_n 0, 1) := by decide +kernel
theorem d_M_may_130 : decode prog_7_method_37_code 130 = .ok (.aload_n 0, 1) := by decide +kernel
theorem d_M_may_131 : decode prog_7_method_37_code 131 = .ok (.getfield 46, 3) := by decide +kernel
theorem d_M_may_134 : decode prog_7_method_37_code 134 = .ok (.iload 4, 2) := by decide +kernel
theorem d_M_may_136 : decode prog_7_method_37_code 136 = .ok (.iaload, 1) := by decide +kernel
theorem d_M_may_137 : decode prog_7_method_37_code 137 = .ok (.aload_n 0, 1) := by decide +kernel
theorem d_M_may_138 : decode prog_7_method_37_code 138 = .ok (.getfield 34, 3) := by decide +kernel
theorem d_M_may_141 : decode prog_7_method_37_code 141 = .ok (.iload_n 1, 1) := by decide +kernel
theorem d_M_may_142 : decode prog_7_method_37_code 142 = .ok (.iaload, 1) := by decide +kernel
theorem d_M_may_143 : decode prog_7_method_37_code 143 = .ok (.invokevirtual 180, 3) := by decide +kernel
theorem d_M_may_146 : decode prog_7_method_37_code 146 = .ok (.istore 5, 2) := by decide +kernel
theorem d_M_may_148 : decode prog_7_method_37_code 148 = .ok (.iload_n 3, 1) := by decide +kernel
theorem d_M_may_149 : decode prog_7_method_37_code 149 = .ok (.iload 5, 2) := by decide +kernel
theorem d_M_may_151 : decode prog_7_method_37_code 151 = .ok (.ifCond .ge 7, 3) := by decide +kernel
theorem d_M_may_154 : decode prog_7_method_37_code 154 = .ok (.iconst 0, 1) := by decide +kernel
theorem d_M_may_155 : decode prog_7_method_37_code 155 = .ok (.goto 7, 3) := by decide +kernel
theorem d_M_may_158 : decode prog_7_method_37_code 158 = .ok (.iconst 1, 1) := by decide +kernel
theorem d_M_may_159 : decode prog_7_method_37_code 159 = .ok (.iload 5, 2) := by decide +kernel
theorem d_M_may_161 : decode prog_7_method_37_code 161 = .ok (.ishl, 1) := by decide +kernel
theorem d_M_may_162 : decode prog_7_method_37_code 162 = .ok (.ior, 1) := by decide +kernel
theorem d_M_may_163 : decode prog_7_method_37_code 163 = .ok (.istore_n 3, 1) := by decide +kernel
theorem d_M_may_164 : decode prog_7_method_37_code 164 = .ok (.iinc 4 1, 3) := by decide +kernel
theorem d_M_may_167 : decode prog_7_method_37_code 167 = .ok (.goto (-103), 3) := by decide +kernel
theorem d_M_may_170 : decode prog_7_method_37_code 170 = .ok (.iload_n 3, 1) := by decide +kernel
theorem d_M_may_171 : decode prog_7_method_37_code 171 = .ok (.ireturn, 1) := by decide +kernel
theorem d_M_alias_0 : decode prog_7_method_38_code 0 = .ok (.aload_n 0, 1) := by decide +kernel
theorem d_M_alias_1 : decode prog_7_method_38_code 1 = .ok (.iload_n 1, 1) := by decide +kernel
theorem d_M_alias_2 : decode prog_7_method_38_code 2 = .ok (.invokevirtual 150, 3) := by decide +kernel
theorem d_M_alias_5 : decode prog_7_method_38_code 5 = .ok (.ifCond .eq 26, 3) := by decide +kernel
theorem d_M_alias_8 : decode prog_7_method_38_code 8 = .ok (.iload_n 2, 1) := by decide +kernel
theorem d_M_alias_9 : decode prog_7_method_38_code 9 = .ok (.invokestatic 141, 3) := by decide +kernel
theorem d_M_alias_12 : decode prog_7_method_38_code 12 = .ok (.ifCond .eq 19, 3) := by decide +kernel
theorem d_M_alias_15 : decode prog_7_method_38_code 15 = .ok (.aload_n 0, 1) := by decide +kernel
theorem d_M_alias_16 : decode prog_7_method_38_code 16 = .ok (.iload_n 3, 1) := by decide +kernel
theorem d_M_alias_17 : decode prog_7_method_38_code 17 = .ok (.invokevirtual 150, 3) := by decide +kernel
theorem d_M_alias_20 : decode prog_7_method_38_code 20 = .ok (.ifCond .eq 11, 3) := by decide +kernel
theorem d_M_alias_23 : decode prog_7_method_38_code 23 = .ok (.iload 4, 2) := by decide +kernel
theorem d_M_alias_25 : decode prog_7_method_38_code 25 = .ok (.invokestatic 141, 3) := by decide +kernel
theorem d_M_alias_28 : decode prog_7_method_38_code 28 = .ok (.ifCond .ne 5, 3) := by decide +kernel
theorem d_M_alias_31 : decode prog_7_method_38_code 31 = .ok (.iconst (-1), 1) := by decide +kernel
theorem d_M_alias_32 : decode prog_7_method_38_code 32 = .ok (.ireturn, 1) := by decide +kernel
theorem d_M_alias_33 : decode prog_7_method_38_code 33 = .ok (.aload_n 0, 1) := by decide +kernel
theorem d_M_alias_34 : decode prog_7_method_38_code 34 = .ok (.invokevirtual 213, 3) := by decide +kernel
theorem d_M_alias_37 : decode prog_7_method_38_code 37 = .ok (.aload_n 0, 1) := by decide +kernel
theorem d_M_alias_38 : decode prog_7_method_38_code 38 = .ok (.iload_n 1, 1) := by decide +kernel
theorem d_M_alias_39 : decode prog_7_method_38_code 39 = .ok (.iload_n 2, 1) := by decide +kernel
theorem d_M_alias_40 : decode prog_7_method_38_code 40 = .ok (.invokevirtual 183, 3) := by decide +kernel
theorem d_M_alias_43 : decode prog_7_method_38_code 43 = .ok (.aload_n 0, 1) := by decide +kernel
theorem d_M_alias_44 : decode prog_7_method_38_code 44 = .ok (.iload_n 3, 1) := by decide +kernel
theorem d_M_alias_45 : decode prog_7_method_38_code 45 = .ok (.iload 4, 2) := by decide +kernel
theorem d_M_alias_47 : decode prog_7_method_38_code 47 = .ok (.invokevirtual 183, 3) := by decide +kernel
theorem d_M_alias_50 : decode prog_7_method_38_code 50 = .ok (.iand, 1) := by decide +kernel
theorem d_M_alias_51 : decode prog_7_method_38_code 51 = .ok (.ifCond .eq 7, 3) := by decide +kernel
theorem d_M_alias_54 : decode prog_7_method_38_code 54 = .ok (.iconst 1, 1) := by decide +kernel
theorem d_M_alias_55 : decode prog_7_method_38_code 55 = .ok (.goto 4, 3) := by decide +kernel
theorem d_M_alias_58 : decode prog_7_method_38_code 58 = .ok (.iconst 0, 1) := by decide +kernel
theorem d_M_alias_59 : decode prog_7_method_38_code 59 = .ok (.ireturn, 1) := by decide +kernel
theorem d_M_rounds_0 : decode prog_7_method_39_code 0 = .ok (.aload_n 0, 1) := by decide +kernel
theorem d_M_rounds_1 : decode prog_7_method_39_code 1 = .ok (.invokevirtual 213, 3) := by decide +kernel
theorem d_M_rounds_4 : decode prog_7_method_39_code 4 = .ok (.aload_n 0, 1) := by decide +kernel
theorem d_M_rounds_5 : decode prog_7_method_39_code 5 = .ok (.getfield 189, 3) := by decide +kernel
theorem d_M_rounds_8 : decode prog_7_method_39_code 8 = .ok (.ireturn, 1) := by decide +kernel
theorem d_M_when_0 : decode prog_7_method_40_code 0 = .ok (.aload_n 0, 1) := by decide +kernel
theorem d_M_when_1 : decode prog_7_method_40_code 1 = .ok (.iload_n 1, 1) := by decide +kernel
theorem d_M_when_2 : decode prog_7_method_40_code 2 = .ok (.invokevirtual 150, 3) := by decide +kernel
theorem d_M_when_5 : decode prog_7_method_40_code 5 = .ok (.ifCond .eq 18, 3) := by decide +kernel
theorem d_M_when_8 : decode prog_7_method_40_code 8 = .ok (.iload_n 2, 1) := by decide +kernel
theorem d_M_when_9 : decode prog_7_method_40_code 9 = .ok (.invokestatic 141, 3) := by decide +kernel
theorem d_M_when_12 : decode prog_7_method_40_code 12 = .ok (.ifCond .eq 11, 3) := by decide +kernel
theorem d_M_when_15 : decode prog_7_method_40_code 15 = .ok (.aload_n 0, 1) := by decide +kernel
theorem d_M_when_16 : decode prog_7_method_40_code 16 = .ok (.iload_n 3, 1) := by decide +kernel
theorem d_M_when_17 : decode prog_7_method_40_code 17 = .ok (.invokevirtual 216, 3) := by decide +kernel
theorem d_M_when_20 : decode prog_7_method_40_code 20 = .ok (.ifCond .ne 5, 3) := by decide +kernel
theorem d_M_when_23 : decode prog_7_method_40_code 23 = .ok (.iconst (-1), 1) := by decide +kernel
theorem d_M_when_24 : decode prog_7_method_40_code 24 = .ok (.ireturn, 1) := by decide +kernel
theorem d_M_when_25 : decode prog_7_method_40_code 25 = .ok (.aload_n 0, 1) := by decide +kernel
theorem d_M_when_26 : decode prog_7_method_40_code 26 = .ok (.invokevirtual 213, 3) := by decide +kernel
theorem d_M_when_29 : decode prog_7_method_40_code 29 = .ok (.aload_n 0, 1) := by decide +kernel
theorem d_M_when_30 : decode prog_7_method_40_code 30 = .ok (.getfield 79, 3) := by decide +kernel
theorem d_M_when_33 : decode prog_7_method_40_code 33 = .ok (.bipush 120, 2) := by decide +kernel
theorem d_M_when_35 : decode prog_7_method_40_code 35 = .ok (.iload_n 1, 1) := by decide +kernel
theorem d_M_when_36 : decode prog_7_method_40_code 36 = .ok (.imul, 1) := by decide +kernel
theorem d_M_when_37 : decode prog_7_method_40_code 37 = .ok (.bipush 20, 2) := by decide +kernel
theorem d_M_when_39 : decode prog_7_method_40_code 39 = .ok (.iload_n 2, 1) := by decide +kernel
theorem d_M_when_40 : decode prog_7_method_40_code 40 = .ok (.imul, 1) := by decide +kernel
theorem d_M_when_41 : decode prog_7_method_40_code 41 = .ok (.iadd, 1) := by decide +kernel
theorem d_M_when_42 : decode prog_7_method_40_code 42 = .ok (.iload_n 3, 1) := by decide +kernel
theorem d_M_when_43 : decode prog_7_method_40_code 43 = .ok (.iadd, 1) := by decide +kernel
theorem d_M_when_44 : decode prog_7_method_40_code 44 = .ok (.iaload, 1) := by decide +kernel
theorem d_M_when_45 : decode prog_7_method_40_code 45 = .ok (.istore 4, 2) := by decide +kernel
theorem d_M_when_47 : decode prog_7_method_40_code 47 = .ok (.iload 4, 2) := by decide +kernel
theorem d_M_when_49 : decode prog_7_method_40_code 49 = .ok (.ifCond .ge 8, 3) := by decide +kernel
theorem d_M_when_52 : decode prog_7_method_40_code 52 = .ok (.bipush (-3), 2) := by decide +kernel
theorem d_M_when_54 : decode prog_7_method_40_code 54 = .ok (.goto 5, 3) := by decide +kernel
theorem d_M_when_57 : decode prog_7_method_40_code 57 = .ok (.iload 4, 2) := by decide +kernel
theorem d_M_when_59 : decode prog_7_method_40_code 59 = .ok (.ireturn, 1) := by decide +kernel
theorem d_M_forgetRun_0 : decode prog_7_method_41_code 0 = .ok (.aload_n 0, 1) := by decide +kernel
theorem d_M_forgetRun_1 : decode prog_7_method_41_code 1 = .ok (.iconst 0, 1) := by decide +kernel
theorem d_M_forgetRun_2 : decode prog_7_method_41_code 2 = .ok (.putfield 219, 3) := by decide +kernel
theorem d_M_forgetRun_5 : decode prog_7_method_41_code 5 = .ok (.aload_n 0, 1) := by decide +kernel
theorem d_M_forgetRun_6 : decode prog_7_method_41_code 6 = .ok (.iconst 0, 1) := by decide +kernel
theorem d_M_forgetRun_7 : decode prog_7_method_41_code 7 = .ok (.putfield 222, 3) := by decide +kernel
theorem d_M_forgetRun_10 : decode prog_7_method_41_code 10 = .ok (.aload_n 0, 1) := by decide +kernel
theorem d_M_forgetRun_11 : decode prog_7_method_41_code 11 = .ok (.iconst 0, 1) := by decide +kernel
theorem d_M_forgetRun_12 : decode prog_7_method_41_code 12 = .ok (.putfield 225, 3) := by decide +kernel
theorem d_M_forgetRun_15 : decode prog_7_method_41_code 15 = .ok (.iconst 0, 1) := by decide +kernel
theorem d_M_forgetRun_16 : decode prog_7_method_41_code 16 = .ok (.istore_n 1, 1) := by decide +kernel
theorem d_M_forgetRun_17 : decode prog_7_method_41_code 17 = .ok (.iload_n 1, 1) := by decide +kernel
theorem d_M_forgetRun_18 : decode prog_7_method_41_code 18 = .ok (.bipush 60, 2) := by decide +kernel
theorem d_M_forgetRun_20 : decode prog_7_method_41_code 20 = .ok (.if_icmp .ge 16, 3) := by decide +kernel
theorem d_M_forgetRun_23 : decode prog_7_method_41_code 23 = .ok (.aload_n 0, 1) := by decide +kernel
theorem d_M_forgetRun_24 : decode prog_7_method_41_code 24 = .ok (.getfield 106, 3) := by decide +kernel
theorem d_M_forgetRun_27 : decode prog_7_method_41_code 27 = .ok (.iload_n 1, 1) := by decide +kernel
theorem d_M_forgetRun_28 : decode prog_7_method_41_code 28 = .ok (.iconst 0, 1) := by decide +kernel
theorem d_M_forgetRun_29 : decode prog_7_method_41_code 29 = .ok (.iastore, 1) := by decide +kernel
theorem d_M_forgetRun_30 : decode prog_7_method_41_code 30 = .ok (.iinc 1 1, 3) := by decide +kernel
theorem d_M_forgetRun_33 : decode prog_7_method_41_code 33 = .ok (.goto (-16), 3) := by decide +kernel
theorem d_M_forgetRun_36 : decode prog_7_method_41_code 36 = .ok (.return_, 1) := by decide +kernel
theorem d_M_open_0 : decode prog_7_method_42_code 0 = .ok (.aload_n 0, 1) := by decide +kernel
theorem d_M_open_1 : decode prog_7_method_42_code 1 = .ok (.getfield 94, 3) := by decide +kernel
theorem d_M_open_4 : decode prog_7_method_42_code 4 = .ok (.aload_n 0, 1) := by decide +kernel
theorem d_M_open_5 : decode prog_7_method_42_code 5 = .ok (.getfield 222, 3) := by decide +kernel
theorem d_M_open_8 : decode prog_7_method_42_code 8 = .ok (.iload_n 1, 1) := by decide +kernel
theorem d_M_open_9 : decode prog_7_method_42_code 9 = .ok (.iastore, 1) := by decide +kernel
theorem d_M_open_10 : decode prog_7_method_42_code 10 = .ok (.aload_n 0, 1) := by decide +kernel
theorem d_M_open_11 : decode prog_7_method_42_code 11 = .ok (.getfield 97, 3) := by decide +kernel
theorem d_M_open_14 : decode prog_7_method_42_code 14 = .ok (.aload_n 0, 1) := by decide +kernel
theorem d_M_open_15 : decode prog_7_method_42_code 15 = .ok (.getfield 222, 3) := by decide +kernel
theorem d_M_open_18 : decode prog_7_method_42_code 18 = .ok (.iload_n 2, 1) := by decide +kernel
theorem d_M_open_19 : decode prog_7_method_42_code 19 = .ok (.iastore, 1) := by decide +kernel
theorem d_M_open_20 : decode prog_7_method_42_code 20 = .ok (.aload_n 0, 1) := by decide +kernel
theorem d_M_open_21 : decode prog_7_method_42_code 21 = .ok (.getfield 100, 3) := by decide +kernel
theorem d_M_open_24 : decode prog_7_method_42_code 24 = .ok (.aload_n 0, 1) := by decide +kernel
theorem d_M_open_25 : decode prog_7_method_42_code 25 = .ok (.getfield 222, 3) := by decide +kernel
theorem d_M_open_28 : decode prog_7_method_42_code 28 = .ok (.iload_n 3, 1) := by decide +kernel
theorem d_M_open_29 : decode prog_7_method_42_code 29 = .ok (.iastore, 1) := by decide +kernel
theorem d_M_open_30 : decode prog_7_method_42_code 30 = .ok (.iconst 0, 1) := by decide +kernel
theorem d_M_open_31 : decode prog_7_method_42_code 31 = .ok (.istore 4, 2) := by decide +kernel
theorem d_M_open_33 : decode prog_7_method_42_code 33 = .ok (.iload 4, 2) := by decide +kernel
theorem d_M_open_35 : decode prog_7_method_42_code 35 = .ok (.bipush 6, 2) := by decide +kernel
theorem d_M_open_37 : decode prog_7_method_42_code 37 = .ok (.if_icmp .ge 25, 3) := by decide +kernel
theorem d_M_open_40 : decode prog_7_method_42_code 40 = .ok (.aload_n 0, 1) := by decide +kernel
theorem d_M_open_41 : decode prog_7_method_42_code 41 = .ok (.getfield 103, 3) := by decide +kernel
theorem d_M_open_44 : decode prog_7_method_42_code 44 = .ok (.bipush 6, 2) := by decide +kernel
theorem d_M_open_46 : decode prog_7_method_42_code 46 = .ok (.aload_n 0, 1) := by decide +kernel
theorem d_M_open_47 : decode prog_7_method_42_code 47 = .ok (.getfield 222, 3) := by decide +kernel
theorem d_M_open_50 : decode prog_7_method_42_code 50 = .ok (.imul, 1) := by decide +kernel
theorem d_M_open_51 : decode prog_7_method_42_code 51 = .ok (.iload 4, 2) := by decide +kernel
theorem d_M_open_53 : decode prog_7_method_42_code 53 = .ok (.iadd, 1) := by decide +kernel
theorem d_M_open_54 : decode prog_7_method_42_code 54 = .ok (.iconst (-1), 1) := by decide +kernel
theorem d_M_open_55 : decode prog_7_method_42_code 55 = .ok (.iastore, 1) := by decide +kernel
theorem d_M_open_56 : decode prog_7_method_42_code 56 = .ok (.iinc 4 1, 3) := by decide +kernel
theorem d_M_open_59 : decode prog_7_method_42_code 59 = .ok (.goto (-26), 3) := by decide +kernel
theorem d_M_open_62 : decode prog_7_method_42_code 62 = .ok (.aload_n 0, 1) := by decide +kernel
theorem d_M_open_63 : decode prog_7_method_42_code 63 = .ok (.dup, 1) := by decide +kernel
theorem d_M_open_64 : decode prog_7_method_42_code 64 = .ok (.getfield 222, 3) := by decide +kernel
theorem d_M_open_67 : decode prog_7_method_42_code 67 = .ok (.iconst 1, 1) := by decide +kernel
theorem d_M_open_68 : decode prog_7_method_42_code 68 = .ok (.iadd, 1) := by decide +kernel
theorem d_M_open_69 : decode prog_7_method_42_code 69 = .ok (.putfield 222, 3) := by decide +kernel
theorem d_M_open_72 : decode prog_7_method_42_code 72 = .ok (.return_, 1) := by decide +kernel
theorem d_M_statementOf_0 : decode prog_7_method_43_code 0 = .ok (.iload_n 2, 1) := by decide +kernel
theorem d_M_statementOf_1 : decode prog_7_method_43_code 1 = .ok (.istore_n 3, 1) := by decide +kernel
theorem d_M_statementOf_2 : decode prog_7_method_43_code 2 = .ok (.iconst 0, 1) := by decide +kernel
theorem d_M_statementOf_3 : decode prog_7_method_43_code 3 = .ok (.istore 4, 2) := by decide +kernel
theorem d_M_statementOf_5 : decode prog_7_method_43_code 5 = .ok (.iload 4, 2) := by decide +kernel
theorem d_M_statementOf_7 : decode prog_7_method_43_code 7 = .ok (.aload_n 0, 1) := by decide +kernel
theorem d_M_statementOf_8 : decode prog_7_method_43_code 8 = .ok (.getfield 157, 3) := by decide +kernel
theorem d_M_statementOf_11 : decode prog_7_method_43_code 11 = .ok (.if_icmp .ge 30, 3) := by decide +kernel
theorem d_M_statementOf_14 : decode prog_7_method_43_code 14 = .ok (.aload_n 0, 1) := by decide +kernel
theorem d_M_statementOf_15 : decode prog_7_method_43_code 15 = .ok (.getfield 22, 3) := by decide +kernel
theorem d_M_statementOf_18 : decode prog_7_method_43_code 18 = .ok (.iload 4, 2) := by decide +kernel
theorem d_M_statementOf_20 : decode prog_7_method_43_code 20 = .ok (.iaload, 1) := by decide +kernel
theorem d_M_statementOf_21 : decode prog_7_method_43_code 21 = .ok (.iload_n 1, 1) := by decide +kernel
theorem d_M_statementOf_22 : decode prog_7_method_43_code 22 = .ok (.if_icmp .ne 13, 3) := by decide +kernel
theorem d_M_statementOf_25 : decode prog_7_method_43_code 25 = .ok (.iload_n 3, 1) := by decide +kernel
theorem d_M_statementOf_26 : decode prog_7_method_43_code 26 = .ok (.ifCond .ne 6, 3) := by decide +kernel
theorem d_M_statementOf_29 : decode prog_7_method_43_code 29 = .ok (.iload 4, 2) := by decide +kernel
theorem d_M_statementOf_31 : decode prog_7_method_43_code 31 = .ok (.ireturn, 1) := by decide +kernel
theorem d_M_statementOf_32 : decode prog_7_method_43_code 32 = .ok (.iinc 3 (-1), 3) := by decide +kernel
theorem d_M_statementOf_35 : decode prog_7_method_43_code 35 = .ok (.iinc 4 1, 3) := by decide +kernel
theorem d_M_statementOf_38 : decode prog_7_method_43_code 38 = .ok (.goto (-33), 3) := by decide +kernel
theorem d_M_statementOf_41 : decode prog_7_method_43_code 41 = .ok (.iconst (-1), 1) := by decide +kernel
theorem d_M_statementOf_42 : decode prog_7_method_43_code 42 = .ok (.ireturn, 1) := by decide +kernel
theorem d_M_many_0 : decode prog_7_method_44_code 0 = .ok (.iconst 0, 1) := by decide +kernel
theorem d_M_many_1 : decode prog_7_method_44_code 1 = .ok (.istore_n 2, 1) := by decide +kernel
theorem d_M_many_2 : decode prog_7_method_44_code 2 = .ok (.iconst 0, 1) := by decide +kernel
theorem d_M_many_3 : decode prog_7_method_44_code 3 = .ok (.istore_n 3, 1) := by decide +kernel
theorem d_M_many_4 : decode prog_7_method_44_code 4 = .ok (.iload_n 3, 1) := by decide +kernel
theorem d_M_many_5 : decode prog_7_method_44_code 5 = .ok (.aload_n 0, 1) := by decide +kernel
theorem d_M_many_6 : decode prog_7_method_44_code 6 = .ok (.getfield 157, 3) := by decide +kernel
theorem d_M_many_9 : decode prog_7_method_44_code 9 = .ok (.if_icmp .ge 27, 3) := by decide +kernel
theorem d_M_many_12 : decode prog_7_method_44_code 12 = .ok (.iload_n 2, 1) := by decide +kernel
theorem d_M_many_13 : decode prog_7_method_44_code 13 = .ok (.aload_n 0, 1) := by decide +kernel
theorem d_M_many_14 : decode prog_7_method_44_code 14 = .ok (.getfield 22, 3) := by decide +kernel
theorem d_M_many_17 : decode prog_7_method_44_code 17 = .ok (.iload_n 3, 1) := by decide +kernel
theorem d_M_many_18 : decode prog_7_method_44_code 18 = .ok (.iaload, 1) := by decide +kernel
theorem d_M_many_19 : decode prog_7_method_44_code 19 = .ok (.iload_n 1, 1) := by decide +kernel
theorem d_M_many_20 : decode prog_7_method_44_code 20 = .ok (.if_icmp .ne 7, 3) := by decide +kernel
theorem d_M_many_23 : decode prog_7_method_44_code 23 = .ok (.iconst 1, 1) := by decide +kernel
theorem d_M_many_24 : decode prog_7_method_44_code 24 = .ok (.goto 4, 3) := by decide +kernel
theorem d_M_many_27 : decode prog_7_method_44_code 27 = .ok (.iconst 0, 1) := by decide +kernel
theorem d_M_many_28 : decode prog_7_method_44_code 28 = .ok (.iadd, 1) := by decide +kernel
theorem d_M_many_29 : decode prog_7_method_44_code 29 = .ok (.istore_n 2, 1) := by decide +kernel
theorem d_M_many_30 : decode prog_7_method_44_code 30 = .ok (.iinc 3 1, 3) := by decide +kernel
theorem d_M_many_33 : decode prog_7_method_44_code 33 = .ok (.goto (-29), 3) := by decide +kernel
theorem d_M_many_36 : decode prog_7_method_44_code 36 = .ok (.iload_n 2, 1) := by decide +kernel
theorem d_M_many_37 : decode prog_7_method_44_code 37 = .ok (.ireturn, 1) := by decide +kernel
theorem d_M_canHave_0 : decode prog_7_method_45_code 0 = .ok (.iload_n 1, 1) := by decide +kernel
theorem d_M_canHave_1 : decode prog_7_method_45_code 1 = .ok (.ifCond .lt 21, 3) := by decide +kernel
theorem d_M_canHave_4 : decode prog_7_method_45_code 4 = .ok (.aload_n 0, 1) := by decide +kernel
theorem d_M_canHave_5 : decode prog_7_method_45_code 5 = .ok (.aload_n 0, 1) := by decide +kernel
theorem d_M_canHave_6 : decode prog_7_method_45_code 6 = .ok (.getfield 82, 3) := by decide +kernel
theorem d_M_canHave_9 : decode prog_7_method_45_code 9 = .ok (.iload_n 1, 1) := by decide +kernel
theorem d_M_canHave_10 : decode prog_7_method_45_code 10 = .ok (.iaload, 1) := by decide +kernel
theorem d_M_canHave_11 : decode prog_7_method_45_code 11 = .ok (.iload_n 2, 1) := by decide +kernel
theorem d_M_canHave_12 : decode prog_7_method_45_code 12 = .ok (.invokevirtual 177, 3) := by decide +kernel
theorem d_M_canHave_15 : decode prog_7_method_45_code 15 = .ok (.ifCond .eq 7, 3) := by decide +kernel
theorem d_M_canHave_18 : decode prog_7_method_45_code 18 = .ok (.iconst 1, 1) := by decide +kernel
theorem d_M_canHave_19 : decode prog_7_method_45_code 19 = .ok (.goto 4, 3) := by decide +kernel
theorem d_M_canHave_22 : decode prog_7_method_45_code 22 = .ok (.iconst 0, 1) := by decide +kernel
theorem d_M_canHave_23 : decode prog_7_method_45_code 23 = .ok (.ireturn, 1) := by decide +kernel
theorem d_M_make_0 : decode prog_7_method_46_code 0 = .ok (.aload_n 0, 1) := by decide +kernel
theorem d_M_make_1 : decode prog_7_method_46_code 1 = .ok (.getfield 219, 3) := by decide +kernel
theorem d_M_make_4 : decode prog_7_method_46_code 4 = .ok (.bipush 30, 2) := by decide +kernel
theorem d_M_make_6 : decode prog_7_method_46_code 6 = .ok (.if_icmp .ne 4, 3) := by decide +kernel
theorem d_M_make_9 : decode prog_7_method_46_code 9 = .ok (.return_, 1) := by decide +kernel
theorem d_M_make_10 : decode prog_7_method_46_code 10 = .ok (.aload_n 0, 1) := by decide +kernel
theorem d_M_make_11 : decode prog_7_method_46_code 11 = .ok (.getfield 82, 3) := by decide +kernel
theorem d_M_make_14 : decode prog_7_method_46_code 14 = .ok (.aload_n 0, 1) := by decide +kernel
theorem d_M_make_15 : decode prog_7_method_46_code 15 = .ok (.getfield 219, 3) := by decide +kernel
theorem d_M_make_18 : decode prog_7_method_46_code 18 = .ok (.aload_n 0, 1) := by decide +kernel
theorem d_M_make_19 : decode prog_7_method_46_code 19 = .ok (.getfield 43, 3) := by decide +kernel
theorem d_M_make_22 : decode prog_7_method_46_code 22 = .ok (.iload_n 1, 1) := by decide +kernel
theorem d_M_make_23 : decode prog_7_method_46_code 23 = .ok (.iaload, 1) := by decide +kernel
theorem d_M_make_24 : decode prog_7_method_46_code 24 = .ok (.iastore, 1) := by decide +kernel
theorem d_M_make_25 : decode prog_7_method_46_code 25 = .ok (.aload_n 0, 1) := by decide +kernel
theorem d_M_make_26 : decode prog_7_method_46_code 26 = .ok (.getfield 88, 3) := by decide +kernel
theorem d_M_make_29 : decode prog_7_method_46_code 29 = .ok (.aload_n 0, 1) := by decide +kernel
theorem d_M_make_30 : decode prog_7_method_46_code 30 = .ok (.getfield 219, 3) := by decide +kernel
theorem d_M_make_33 : decode prog_7_method_46_code 33 = .ok (.iconst (-1), 1) := by decide +kernel
theorem d_M_make_34 : decode prog_7_method_46_code 34 = .ok (.iastore, 1) := by decide +kernel
theorem d_M_make_35 : decode prog_7_method_46_code 35 = .ok (.iconst 0, 1) := by decide +kernel
theorem d_M_make_36 : decode prog_7_method_46_code 36 = .ok (.istore_n 3, 1) := by decide +kernel
theorem d_M_make_37 : decode prog_7_method_46_code 37 = .ok (.iload_n 3, 1) := by decide +kernel
theorem d_M_make_38 : decode prog_7_method_46_code 38 = .ok (.bipush 8, 2) := by decide +kernel
theorem d_M_make_40 : decode prog_7_method_46_code 40 = .ok (.if_icmp .ge 24, 3) := by decide +kernel
theorem d_M_make_43 : decode prog_7_method_46_code 43 = .ok (.aload_n 0, 1) := by decide +kernel
theorem d_M_make_44 : decode prog_7_method_46_code 44 = .ok (.getfield 85, 3) := by decide +kernel
theorem d_M_make_47 : decode prog_7_method_46_code 47 = .ok (.bipush 8, 2) := by decide +kernel
theorem d_M_make_49 : decode prog_7_method_46_code 49 = .ok (.aload_n 0, 1) := by decide +kernel
theorem d_M_make_50 : decode prog_7_method_46_code 50 = .ok (.getfield 219, 3) := by decide +kernel
theorem d_M_make_53 : decode prog_7_method_46_code 53 = .ok (.imul, 1) := by decide +kernel
theorem d_M_make_54 : decode prog_7_method_46_code 54 = .ok (.iload_n 3, 1) := by decide +kernel
theorem d_M_make_55 : decode prog_7_method_46_code 55 = .ok (.iadd, 1) := by decide +kernel
theorem d_M_make_56 : decode prog_7_method_46_code 56 = .ok (.iconst (-1), 1) := by decide +kernel
theorem d_M_make_57 : decode prog_7_method_46_code 57 = .ok (.iastore, 1) := by decide +kernel
theorem d_M_make_58 : decode prog_7_method_46_code 58 = .ok (.iinc 3 1, 3) := by decide +kernel
theorem d_M_make_61 : decode prog_7_method_46_code 61 = .ok (.goto (-24), 3) := by decide +kernel
theorem d_M_make_64 : decode prog_7_method_46_code 64 = .ok (.aload_n 0, 1) := by decide +kernel
theorem d_M_make_65 : decode prog_7_method_46_code 65 = .ok (.getfield 103, 3) := by decide +kernel
theorem d_M_make_68 : decode prog_7_method_46_code 68 = .ok (.iload_n 2, 1) := by decide +kernel
theorem d_M_make_69 : decode prog_7_method_46_code 69 = .ok (.aload_n 0, 1) := by decide +kernel
theorem d_M_make_70 : decode prog_7_method_46_code 70 = .ok (.getfield 219, 3) := by decide +kernel
theorem d_M_make_73 : decode prog_7_method_46_code 73 = .ok (.iastore, 1) := by decide +kernel
theorem d_M_make_74 : decode prog_7_method_46_code 74 = .ok (.aload_n 0, 1) := by decide +kernel
theorem d_M_make_75 : decode prog_7_method_46_code 75 = .ok (.dup, 1) := by decide +kernel
theorem d_M_make_76 : decode prog_7_method_46_code 76 = .ok (.getfield 219, 3) := by decide +kernel
theorem d_M_make_79 : decode prog_7_method_46_code 79 = .ok (.iconst 1, 1) := by decide +kernel
theorem d_M_make_80 : decode prog_7_method_46_code 80 = .ok (.iadd, 1) := by decide +kernel
theorem d_M_make_81 : decode prog_7_method_46_code 81 = .ok (.putfield 219, 3) := by decide +kernel
theorem d_M_make_84 : decode prog_7_method_46_code 84 = .ok (.return_, 1) := by decide +kernel
theorem d_M_enter_0 : decode prog_7_method_47_code 0 = .ok (.iload_n 3, 1) := by decide +kernel
theorem d_M_enter_1 : decode prog_7_method_47_code 1 = .ok (.ifCond .ge 7, 3) := by decide +kernel
theorem d_M_enter_4 : decode prog_7_method_47_code 4 = .ok (.iconst (-1), 1) := by decide +kernel
theorem d_M_enter_5 : decode prog_7_method_47_code 5 = .ok (.goto 24, 3) := by decide +kernel
theorem d_M_enter_8 : decode prog_7_method_47_code 8 = .ok (.aload_n 0, 1) := by decide +kernel
theorem d_M_enter_9 : decode prog_7_method_47_code 9 = .ok (.aload_n 0, 1) := by decide +kernel
theorem d_M_enter_10 : decode prog_7_method_47_code 10 = .ok (.getfield 46, 3) := by decide +kernel
theorem d_M_enter_13 : decode prog_7_method_47_code 13 = .ok (.aload_n 0, 1) := by decide +kernel
theorem d_M_enter_14 : decode prog_7_method_47_code 14 = .ok (.getfield 82, 3) := by decide +kernel
theorem d_M_enter_17 : decode prog_7_method_47_code 17 = .ok (.iload_n 3, 1) := by decide +kernel
theorem d_M_enter_18 : decode prog_7_method_47_code 18 = .ok (.iaload, 1) := by decide +kernel
theorem d_M_enter_19 : decode prog_7_method_47_code 19 = .ok (.iaload, 1) := by decide +kernel
theorem d_M_enter_20 : decode prog_7_method_47_code 20 = .ok (.aload_n 0, 1) := by decide +kernel
theorem d_M_enter_21 : decode prog_7_method_47_code 21 = .ok (.getfield 34, 3) := by decide +kernel
theorem d_M_enter_24 : decode prog_7_method_47_code 24 = .ok (.iload_n 1, 1) := by decide +kernel
theorem d_M_enter_25 : decode prog_7_method_47_code 25 = .ok (.iaload, 1) := by decide +kernel
theorem d_M_enter_26 : decode prog_7_method_47_code 26 = .ok (.invokevirtual 180, 3) := by decide +kernel
theorem d_M_enter_29 : decode prog_7_method_47_code 29 = .ok (.istore 4, 2) := by decide +kernel
theorem d_M_enter_31 : decode prog_7_method_47_code 31 = .ok (.iload 4, 2) := by decide +kernel
theorem d_M_enter_33 : decode prog_7_method_47_code 33 = .ok (.ifCond .lt 12, 3) := by decide +kernel
theorem d_M_enter_36 : decode prog_7_method_47_code 36 = .ok (.aload_n 0, 1) := by decide +kernel
theorem d_M_enter_37 : decode prog_7_method_47_code 37 = .ok (.getfield 222, 3) := by decide +kernel
theorem d_M_enter_40 : decode prog_7_method_47_code 40 = .ok (.bipush 10, 2) := by decide +kernel
theorem d_M_enter_42 : decode prog_7_method_47_code 42 = .ok (.if_icmp .ne 4, 3) := by decide +kernel
theorem d_M_enter_45 : decode prog_7_method_47_code 45 = .ok (.return_, 1) := by decide +kernel
theorem d_M_enter_46 : decode prog_7_method_47_code 46 = .ok (.aload_n 0, 1) := by decide +kernel
theorem d_M_enter_47 : decode prog_7_method_47_code 47 = .ok (.getfield 103, 3) := by decide +kernel
theorem d_M_enter_50 : decode prog_7_method_47_code 50 = .ok (.iload_n 2, 1) := by decide +kernel
theorem d_M_enter_51 : decode prog_7_method_47_code 51 = .ok (.aload_n 0, 1) := by decide +kernel
theorem d_M_enter_52 : decode prog_7_method_47_code 52 = .ok (.getfield 37, 3) := by decide +kernel
theorem d_M_enter_55 : decode prog_7_method_47_code 55 = .ok (.iload_n 1, 1) := by decide +kernel
theorem d_M_enter_56 : decode prog_7_method_47_code 56 = .ok (.iaload, 1) := by decide +kernel
theorem d_M_enter_57 : decode prog_7_method_47_code 57 = .ok (.iadd, 1) := by decide +kernel
theorem d_M_enter_58 : decode prog_7_method_47_code 58 = .ok (.iaload, 1) := by decide +kernel
theorem d_M_enter_59 : decode prog_7_method_47_code 59 = .ok (.istore 5, 2) := by decide +kernel
theorem d_M_enter_61 : decode prog_7_method_47_code 61 = .ok (.aload_n 0, 1) := by decide +kernel
theorem d_M_enter_62 : decode prog_7_method_47_code 62 = .ok (.getfield 103, 3) := by decide +kernel
theorem d_M_enter_65 : decode prog_7_method_47_code 65 = .ok (.iload_n 2, 1) := by decide +kernel
theorem d_M_enter_66 : decode prog_7_method_47_code 66 = .ok (.aload_n 0, 1) := by decide +kernel
theorem d_M_enter_67 : decode prog_7_method_47_code 67 = .ok (.getfield 40, 3) := by decide +kernel
theorem d_M_enter_70 : decode prog_7_method_47_code 70 = .ok (.iload_n 1, 1) := by decide +kernel
theorem d_M_enter_71 : decode prog_7_method_47_code 71 = .ok (.iaload, 1) := by decide +kernel
theorem d_M_enter_72 : decode prog_7_method_47_code 72 = .ok (.iadd, 1) := by decide +kernel
theorem d_M_enter_73 : decode prog_7_method_47_code 73 = .ok (.iaload, 1) := by decide +kernel
theorem d_M_enter_74 : decode prog_7_method_47_code 74 = .ok (.istore 6, 2) := by decide +kernel
theorem d_M_enter_76 : decode prog_7_method_47_code 76 = .ok (.aload_n 0, 1) := by decide +kernel
theorem d_M_enter_77 : decode prog_7_method_47_code 77 = .ok (.iload 4, 2) := by decide +kernel
theorem d_M_enter_79 : decode prog_7_method_47_code 79 = .ok (.aload_n 0, 1) := by decide +kernel
theorem d_M_enter_80 : decode prog_7_method_47_code 80 = .ok (.getfield 163, 3) := by decide +kernel
theorem d_M_enter_83 : decode prog_7_method_47_code 83 = .ok (.ifCond .ne 7, 3) := by decide +kernel
theorem d_M_enter_86 : decode prog_7_method_47_code 86 = .ok (.iconst 0, 1) := by decide +kernel
theorem d_M_enter_87 : decode prog_7_method_47_code 87 = .ok (.goto 11, 3) := by decide +kernel
theorem d_M_enter_90 : decode prog_7_method_47_code 90 = .ok (.iconst 1, 1) := by decide +kernel
theorem d_M_enter_91 : decode prog_7_method_47_code 91 = .ok (.aload_n 0, 1) := by decide +kernel
theorem d_M_enter_92 : decode prog_7_method_47_code 92 = .ok (.getfield 82, 3) := by decide +kernel
theorem d_M_enter_95 : decode prog_7_method_47_code 95 = .ok (.iload_n 3, 1) := by decide +kernel
theorem d_M_enter_96 : decode prog_7_method_47_code 96 = .ok (.iaload, 1) := by decide +kernel
theorem d_M_enter_97 : decode prog_7_method_47_code 97 = .ok (.iadd, 1) := by decide +kernel
theorem d_M_enter_98 : decode prog_7_method_47_code 98 = .ok (.aload_n 0, 1) := by decide +kernel
theorem d_M_enter_99 : decode prog_7_method_47_code 99 = .ok (.getfield 28, 3) := by decide +kernel
theorem d_M_enter_102 : decode prog_7_method_47_code 102 = .ok (.iload_n 1, 1) := by decide +kernel
theorem d_M_enter_103 : decode prog_7_method_47_code 103 = .ok (.iaload, 1) := by decide +kernel
theorem d_M_enter_104 : decode prog_7_method_47_code 104 = .ok (.invokevirtual 228, 3) := by decide +kernel
theorem d_M_enter_107 : decode prog_7_method_47_code 107 = .ok (.aload_n 0, 1) := by decide +kernel
theorem d_M_enter_108 : decode prog_7_method_47_code 108 = .ok (.getfield 103, 3) := by decide +kernel
theorem d_M_enter_111 : decode prog_7_method_47_code 111 = .ok (.iload_n 2, 1) := by decide +kernel
theorem d_M_enter_112 : decode prog_7_method_47_code 112 = .ok (.bipush 6, 2) := by decide +kernel
theorem d_M_enter_114 : decode prog_7_method_47_code 114 = .ok (.iadd, 1) := by decide +kernel
theorem d_M_enter_115 : decode prog_7_method_47_code 115 = .ok (.iload_n 3, 1) := by decide +kernel
theorem d_M_enter_116 : decode prog_7_method_47_code 116 = .ok (.iastore, 1) := by decide +kernel
theorem d_M_enter_117 : decode prog_7_method_47_code 117 = .ok (.aload_n 0, 1) := by decide +kernel
theorem d_M_enter_118 : decode prog_7_method_47_code 118 = .ok (.getfield 103, 3) := by decide +kernel
theorem d_M_enter_121 : decode prog_7_method_47_code 121 = .ok (.iload_n 2, 1) := by decide +kernel
theorem d_M_enter_122 : decode prog_7_method_47_code 122 = .ok (.bipush 7, 2) := by decide +kernel
theorem d_M_enter_124 : decode prog_7_method_47_code 124 = .ok (.iadd, 1) := by decide +kernel
theorem d_M_enter_125 : decode prog_7_method_47_code 125 = .ok (.iload 5, 2) := by decide +kernel
theorem d_M_enter_127 : decode prog_7_method_47_code 127 = .ok (.iastore, 1) := by decide +kernel
theorem d_M_enter_128 : decode prog_7_method_47_code 128 = .ok (.aload_n 0, 1) := by decide +kernel
theorem d_M_enter_129 : decode prog_7_method_47_code 129 = .ok (.getfield 103, 3) := by decide +kernel
theorem d_M_enter_132 : decode prog_7_method_47_code 132 = .ok (.iload_n 2, 1) := by decide +kernel
theorem d_M_enter_133 : decode prog_7_method_47_code 133 = .ok (.bipush 8, 2) := by decide +kernel
theorem d_M_enter_135 : decode prog_7_method_47_code 135 = .ok (.iadd, 1) := by decide +kernel
theorem d_M_enter_136 : decode prog_7_method_47_code 136 = .ok (.iload 6, 2) := by decide +kernel
theorem d_M_enter_138 : decode prog_7_method_47_code 138 = .ok (.iastore, 1) := by decide +kernel
theorem d_M_enter_139 : decode prog_7_method_47_code 139 = .ok (.aload_n 0, 1) := by decide +kernel
theorem d_M_enter_140 : decode prog_7_method_47_code 140 = .ok (.dup, 1) := by decide +kernel
theorem d_M_enter_141 : decode prog_7_method_47_code 141 = .ok (.getfield 225, 3) := by decide +kernel
theorem d_M_enter_144 : decode prog_7_method_47_code 144 = .ok (.iconst 1, 1) := by decide +kernel
theorem d_M_enter_145 : decode prog_7_method_47_code 145 = .ok (.iadd, 1) := by decide +kernel
theorem d_M_enter_146 : decode prog_7_method_47_code 146 = .ok (.putfield 225, 3) := by decide +kernel
theorem d_M_enter_149 : decode prog_7_method_47_code 149 = .ok (.return_, 1) := by decide +kernel
theorem d_M_act_0 : decode prog_7_method_48_code 0 = .ok (.bipush 6, 2) := by decide +kernel
theorem d_M_act_2 : decode prog_7_method_48_code 2 = .ok (.aload_n 0, 1) := by decide +kernel
theorem d_M_act_3 : decode prog_7_method_48_code 3 = .ok (.getfield 222, 3) := by decide +kernel
theorem d_M_act_6 : decode prog_7_method_48_code 6 = .ok (.iconst 1, 1) := by decide +kernel
theorem d_M_act_7 : decode prog_7_method_48_code 7 = .ok (.isub, 1) := by decide +kernel
theorem d_M_act_8 : decode prog_7_method_48_code 8 = .ok (.imul, 1) := by decide +kernel
theorem d_M_act_9 : decode prog_7_method_48_code 9 = .ok (.istore_n 2, 1) := by decide +kernel
theorem d_M_act_10 : decode prog_7_method_48_code 10 = .ok (.iload_n 2, 1) := by decide +kernel
theorem d_M_act_11 : decode prog_7_method_48_code 11 = .ok (.aload_n 0, 1) := by decide +kernel
theorem d_M_act_12 : decode prog_7_method_48_code 12 = .ok (.getfield 28, 3) := by decide +kernel
theorem d_M_act_15 : decode prog_7_method_48_code 15 = .ok (.iload_n 1, 1) := by decide +kernel
theorem d_M_act_16 : decode prog_7_method_48_code 16 = .ok (.iaload, 1) := by decide +kernel
theorem d_M_act_17 : decode prog_7_method_48_code 17 = .ok (.iadd, 1) := by decide +kernel
theorem d_M_act_18 : decode prog_7_method_48_code 18 = .ok (.istore_n 3, 1) := by decide +kernel
theorem d_M_act_19 : decode prog_7_method_48_code 19 = .ok (.aload_n 0, 1) := by decide +kernel
theorem d_M_act_20 : decode prog_7_method_48_code 20 = .ok (.getfield 25, 3) := by decide +kernel
theorem d_M_act_23 : decode prog_7_method_48_code 23 = .ok (.iload_n 1, 1) := by decide +kernel
theorem d_M_act_24 : decode prog_7_method_48_code 24 = .ok (.iaload, 1) := by decide +kernel
theorem d_M_act_25 : decode prog_7_method_48_code 25 = .ok (.bipush 6, 2) := by decide +kernel
theorem d_M_act_27 : decode prog_7_method_48_code 27 = .ok (.if_icmp .ne 7, 3) := by decide +kernel
theorem d_M_act_30 : decode prog_7_method_48_code 30 = .ok (.iconst (-1), 1) := by decide +kernel
theorem d_M_act_31 : decode prog_7_method_48_code 31 = .ok (.goto 9, 3) := by decide +kernel
theorem d_M_act_34 : decode prog_7_method_48_code 34 = .ok (.aload_n 0, 1) := by decide +kernel
theorem d_M_act_35 : decode prog_7_method_48_code 35 = .ok (.getfield 103, 3) := by decide +kernel
theorem d_M_act_38 : decode prog_7_method_48_code 38 = .ok (.iload_n 3, 1) := by decide +kernel
theorem d_M_act_39 : decode prog_7_method_48_code 39 = .ok (.iaload, 1) := by decide +kernel
theorem d_M_act_40 : decode prog_7_method_48_code 40 = .ok (.istore 4, 2) := by decide +kernel
theorem d_M_act_42 : decode prog_7_method_48_code 42 = .ok (.aload_n 0, 1) := by decide +kernel
theorem d_M_act_43 : decode prog_7_method_48_code 43 = .ok (.getfield 25, 3) := by decide +kernel
theorem d_M_act_46 : decode prog_7_method_48_code 46 = .ok (.iload_n 1, 1) := by decide +kernel
theorem d_M_act_47 : decode prog_7_method_48_code 47 = .ok (.iaload, 1) := by decide +kernel
theorem d_M_act_48 : decode prog_7_method_48_code 48 = .ok (.ifCond .eq 13, 3) := by decide +kernel
theorem d_M_act_51 : decode prog_7_method_48_code 51 = .ok (.aload_n 0, 1) := by decide +kernel
theorem d_M_act_52 : decode prog_7_method_48_code 52 = .ok (.getfield 25, 3) := by decide +kernel
theorem d_M_act_55 : decode prog_7_method_48_code 55 = .ok (.iload_n 1, 1) := by decide +kernel
theorem d_M_act_56 : decode prog_7_method_48_code 56 = .ok (.iaload, 1) := by decide +kernel
theorem d_M_act_57 : decode prog_7_method_48_code 57 = .ok (.iconst 5, 1) := by decide +kernel
theorem d_M_act_58 : decode prog_7_method_48_code 58 = .ok (.if_icmp .ne 7, 3) := by decide +kernel
theorem d_M_act_61 : decode prog_7_method_48_code 61 = .ok (.iconst (-1), 1) := by decide +kernel
theorem d_M_act_62 : decode prog_7_method_48_code 62 = .ok (.goto 16, 3) := by decide +kernel
theorem d_M_act_65 : decode prog_7_method_48_code 65 = .ok (.aload_n 0, 1) := by decide +kernel
theorem d_M_act_66 : decode prog_7_method_48_code 66 = .ok (.getfield 103, 3) := by decide +kernel
theorem d_M_act_69 : decode prog_7_method_48_code 69 = .ok (.iload_n 2, 1) := by decide +kernel
theorem d_M_act_70 : decode prog_7_method_48_code 70 = .ok (.aload_n 0, 1) := by decide +kernel
theorem d_M_act_71 : decode prog_7_method_48_code 71 = .ok (.getfield 31, 3) := by decide +kernel
theorem d_M_act_74 : decode prog_7_method_48_code 74 = .ok (.iload_n 1, 1) := by decide +kernel
theorem d_M_act_75 : decode prog_7_method_48_code 75 = .ok (.iaload, 1) := by decide +kernel
theorem d_M_act_76 : decode prog_7_method_48_code 76 = .ok (.iadd, 1) := by decide +kernel
theorem d_M_act_77 : decode prog_7_method_48_code 77 = .ok (.iaload, 1) := by decide +kernel
theorem d_M_act_78 : decode prog_7_method_48_code 78 = .ok (.istore 5, 2) := by decide +kernel
theorem d_M_act_80 : decode prog_7_method_48_code 80 = .ok (.aload_n 0, 1) := by decide +kernel
theorem d_M_act_81 : decode prog_7_method_48_code 81 = .ok (.getfield 25, 3) := by decide +kernel
theorem d_M_act_84 : decode prog_7_method_48_code 84 = .ok (.iload_n 1, 1) := by decide +kernel
theorem d_M_act_85 : decode prog_7_method_48_code 85 = .ok (.iaload, 1) := by decide +kernel
theorem d_M_act_86 : decode prog_7_method_48_code 86 = .ok (.tableswitch 272 0 8 #[50, 59, 70, 116, 153, 199, 219, 235, 246], 50) := by decide +kernel
theorem d_M_act_136 : decode prog_7_method_48_code 136 = .ok (.aload_n 0, 1) := by decide +kernel
theorem d_M_act_137 : decode prog_7_method_48_code 137 = .ok (.iload_n 1, 1) := by decide +kernel
theorem d_M_act_138 : decode prog_7_method_48_code 138 = .ok (.iload_n 3, 1) := by decide +kernel
theorem d_M_act_139 : decode prog_7_method_48_code 139 = .ok (.invokevirtual 232, 3) := by decide +kernel
theorem d_M_act_142 : decode prog_7_method_48_code 142 = .ok (.goto 230, 3) := by decide +kernel
theorem d_M_act_145 : decode prog_7_method_48_code 145 = .ok (.aload_n 0, 1) := by decide +kernel
theorem d_M_act_146 : decode prog_7_method_48_code 146 = .ok (.getfield 103, 3) := by decide +kernel
theorem d_M_act_149 : decode prog_7_method_48_code 149 = .ok (.iload_n 3, 1) := by decide +kernel
theorem d_M_act_150 : decode prog_7_method_48_code 150 = .ok (.iload 5, 2) := by decide +kernel
theorem d_M_act_152 : decode prog_7_method_48_code 152 = .ok (.iastore, 1) := by decide +kernel
theorem d_M_act_153 : decode prog_7_method_48_code 153 = .ok (.goto 219, 3) := by decide +kernel
theorem d_M_act_156 : decode prog_7_method_48_code 156 = .ok (.aload_n 0, 1) := by decide +kernel
theorem d_M_act_157 : decode prog_7_method_48_code 157 = .ok (.getfield 103, 3) := by decide +kernel
theorem d_M_act_160 : decode prog_7_method_48_code 160 = .ok (.iload_n 3, 1) := by decide +kernel
theorem d_M_act_161 : decode prog_7_method_48_code 161 = .ok (.aload_n 0, 1) := by decide +kernel
theorem d_M_act_162 : decode prog_7_method_48_code 162 = .ok (.iload 5, 2) := by decide +kernel
theorem d_M_act_164 : decode prog_7_method_48_code 164 = .ok (.aload_n 0, 1) := by decide +kernel
theorem d_M_act_165 : decode prog_7_method_48_code 165 = .ok (.getfield 34, 3) := by decide +kernel
theorem d_M_act_168 : decode prog_7_method_48_code 168 = .ok (.iload_n 1, 1) := by decide +kernel
theorem d_M_act_169 : decode prog_7_method_48_code 169 = .ok (.iaload, 1) := by decide +kernel
theorem d_M_act_170 : decode prog_7_method_48_code 170 = .ok (.invokevirtual 235, 3) := by decide +kernel
theorem d_M_act_173 : decode prog_7_method_48_code 173 = .ok (.ifCond .eq 23, 3) := by decide +kernel
theorem d_M_act_176 : decode prog_7_method_48_code 176 = .ok (.aload_n 0, 1) := by decide +kernel
theorem d_M_act_177 : decode prog_7_method_48_code 177 = .ok (.getfield 85, 3) := by decide +kernel
theorem d_M_act_180 : decode prog_7_method_48_code 180 = .ok (.bipush 8, 2) := by decide +kernel
theorem d_M_act_182 : decode prog_7_method_48_code 182 = .ok (.iload 5, 2) := by decide +kernel
theorem d_M_act_184 : decode prog_7_method_48_code 184 = .ok (.imul, 1) := by decide +kernel
theorem d_M_act_185 : decode prog_7_method_48_code 185 = .ok (.aload_n 0, 1) := by decide +kernel
theorem d_M_act_186 : decode prog_7_method_48_code 186 = .ok (.getfield 34, 3) := by decide +kernel
theorem d_M_act_189 : decode prog_7_method_48_code 189 = .ok (.iload_n 1, 1) := by decide +kernel
theorem d_M_act_190 : decode prog_7_method_48_code 190 = .ok (.iaload, 1) := by decide +kernel
theorem d_M_act_191 : decode prog_7_method_48_code 191 = .ok (.iadd, 1) := by decide +kernel
theorem d_M_act_192 : decode prog_7_method_48_code 192 = .ok (.iaload, 1) := by decide +kernel
theorem d_M_act_193 : decode prog_7_method_48_code 193 = .ok (.goto 5, 3) := by decide +kernel
theorem d_M_act_196 : decode prog_7_method_48_code 196 = .ok (.iload 4, 2) := by decide +kernel
theorem d_M_act_198 : decode prog_7_method_48_code 198 = .ok (.iastore, 1) := by decide +kernel
theorem d_M_act_199 : decode prog_7_method_48_code 199 = .ok (.goto 173, 3) := by decide +kernel
theorem d_M_act_202 : decode prog_7_method_48_code 202 = .ok (.aload_n 0, 1) := by decide +kernel
theorem d_M_act_203 : decode prog_7_method_48_code 203 = .ok (.iload 4, 2) := by decide +kernel
theorem d_M_act_205 : decode prog_7_method_48_code 205 = .ok (.aload_n 0, 1) := by decide +kernel
theorem d_M_act_206 : decode prog_7_method_48_code 206 = .ok (.getfield 34, 3) := by decide +kernel
theorem d_M_act_209 : decode prog_7_method_48_code 209 = .ok (.iload_n 1, 1) := by decide +kernel
theorem d_M_act_210 : decode prog_7_method_48_code 210 = .ok (.iaload, 1) := by decide +kernel
theorem d_M_act_211 : decode prog_7_method_48_code 211 = .ok (.invokevirtual 235, 3) := by decide +kernel
theorem d_M_act_214 : decode prog_7_method_48_code 214 = .ok (.ifCond .eq 158, 3) := by decide +kernel
theorem d_M_act_217 : decode prog_7_method_48_code 217 = .ok (.aload_n 0, 1) := by decide +kernel
theorem d_M_act_218 : decode prog_7_method_48_code 218 = .ok (.getfield 85, 3) := by decide +kernel
theorem d_M_act_221 : decode prog_7_method_48_code 221 = .ok (.bipush 8, 2) := by decide +kernel
theorem d_M_act_223 : decode prog_7_method_48_code 223 = .ok (.iload 4, 2) := by decide +kernel
theorem d_M_act_225 : decode prog_7_method_48_code 225 = .ok (.imul, 1) := by decide +kernel
theorem d_M_act_226 : decode prog_7_method_48_code 226 = .ok (.aload_n 0, 1) := by decide +kernel
theorem d_M_act_227 : decode prog_7_method_48_code 227 = .ok (.getfield 34, 3) := by decide +kernel
theorem d_M_act_230 : decode prog_7_method_48_code 230 = .ok (.iload_n 1, 1) := by decide +kernel
theorem d_M_act_231 : decode prog_7_method_48_code 231 = .ok (.iaload, 1) := by decide +kernel
theorem d_M_act_232 : decode prog_7_method_48_code 232 = .ok (.iadd, 1) := by decide +kernel
theorem d_M_act_233 : decode prog_7_method_48_code 233 = .ok (.iload 5, 2) := by decide +kernel
theorem d_M_act_235 : decode prog_7_method_48_code 235 = .ok (.iastore, 1) := by decide +kernel
theorem d_M_act_236 : decode prog_7_method_48_code 236 = .ok (.goto 136, 3) := by decide +kernel
theorem d_M_act_239 : decode prog_7_method_48_code 239 = .ok (.aload_n 0, 1) := by decide +kernel
theorem d_M_act_240 : decode prog_7_method_48_code 240 = .ok (.getfield 103, 3) := by decide +kernel
theorem d_M_act_243 : decode prog_7_method_48_code 243 = .ok (.iload_n 3, 1) := by decide +kernel
theorem d_M_act_244 : decode prog_7_method_48_code 244 = .ok (.iload 5, 2) := by decide +kernel
theorem d_M_act_246 : decode prog_7_method_48_code 246 = .ok (.ifCond .lt 28, 3) := by decide +kernel
theorem d_M_act_249 : decode prog_7_method_48_code 249 = .ok (.aload_n 0, 1) := by decide +kernel
theorem d_M_act_250 : decode prog_7_method_48_code 250 = .ok (.aload_n 0, 1) := by decide +kernel
theorem d_M_act_251 : decode prog_7_method_48_code 251 = .ok (.getfield 46, 3) := by decide +kernel
theorem d_M_act_254 : decode prog_7_method_48_code 254 = .ok (.aload_n 0, 1) := by decide +kernel
theorem d_M_act_255 : decode prog_7_method_48_code 255 = .ok (.getfield 82, 3) := by decide +kernel
theorem d_M_act_258 : decode prog_7_method_48_code 258 = .ok (.iload 5, 2) := by decide +kernel
theorem d_M_act_260 : decode prog_7_method_48_code 260 = .ok (.iaload, 1) := by decide +kernel
theorem d_M_act_261 : decode prog_7_method_48_code 261 = .ok (.iaload, 1) := by decide +kernel
theorem d_M_act_262 : decode prog_7_method_48_code 262 = .ok (.aload_n 0, 1) := by decide +kernel
theorem d_M_act_263 : decode prog_7_method_48_code 263 = .ok (.getfield 34, 3) := by decide +kernel
theorem d_M_act_266 : decode prog_7_method_48_code 266 = .ok (.iload_n 1, 1) := by decide +kernel
theorem d_M_act_267 : decode prog_7_method_48_code 267 = .ok (.iaload, 1) := by decide +kernel
theorem d_M_act_268 : decode prog_7_method_48_code 268 = .ok (.invokevirtual 119, 3) := by decide +kernel
theorem d_M_act_271 : decode prog_7_method_48_code 271 = .ok (.ifCond .eq 8, 3) := by decide +kernel
theorem d_M_act_274 : decode prog_7_method_48_code 274 = .ok (.iload 5, 2) := by decide +kernel
theorem d_M_act_276 : decode prog_7_method_48_code 276 = .ok (.goto 5, 3) := by decide +kernel
theorem d_M_act_279 : decode prog_7_method_48_code 279 = .ok (.iload 4, 2) := by decide +kernel
theorem d_M_act_281 : decode prog_7_method_48_code 281 = .ok (.iastore, 1) := by decide +kernel
theorem d_M_act_282 : decode prog_7_method_48_code 282 = .ok (.goto 90, 3) := by decide +kernel
theorem d_M_act_285 : decode prog_7_method_48_code 285 = .ok (.aload_n 0, 1) := by decide +kernel
theorem d_M_act_286 : decode prog_7_method_48_code 286 = .ok (.getfield 103, 3) := by decide +kernel
theorem d_M_act_289 : decode prog_7_method_48_code 289 = .ok (.iload_n 3, 1) := by decide +kernel
theorem d_M_act_290 : decode prog_7_method_48_code 290 = .ok (.aload_n 0, 1) := by decide +kernel
theorem d_M_act_291 : decode prog_7_method_48_code 291 = .ok (.getfield 91, 3) := by decide +kernel
theorem d_M_act_294 : decode prog_7_method_48_code 294 = .ok (.aload_n 0, 1) := by decide +kernel
theorem d_M_act_295 : decode prog_7_method_48_code 295 = .ok (.getfield 31, 3) := by decide +kernel
theorem d_M_act_298 : decode prog_7_method_48_code 298 = .ok (.iload_n 1, 1) := by decide +kernel
theorem d_M_act_299 : decode prog_7_method_48_code 299 = .ok (.iaload, 1) := by decide +kernel
theorem d_M_act_300 : decode prog_7_method_48_code 300 = .ok (.iaload, 1) := by decide +kernel
theorem d_M_act_301 : decode prog_7_method_48_code 301 = .ok (.iastore, 1) := by decide +kernel
theorem d_M_act_302 : decode prog_7_method_48_code 302 = .ok (.goto 70, 3) := by decide +kernel
theorem d_M_act_305 : decode prog_7_method_48_code 305 = .ok (.aload_n 0, 1) := by decide +kernel
theorem d_M_act_306 : decode prog_7_method_48_code 306 = .ok (.getfield 91, 3) := by decide +kernel
theorem d_M_act_309 : decode prog_7_method_48_code 309 = .ok (.aload_n 0, 1) := by decide +kernel
theorem d_M_act_310 : decode prog_7_method_48_code 310 = .ok (.getfield 28, 3) := by decide +kernel
theorem d_M_act_313 : decode prog_7_method_48_code 313 = .ok (.iload_n 1, 1) := by decide +kernel
theorem d_M_act_314 : decode prog_7_method_48_code 314 = .ok (.iaload, 1) := by decide +kernel
theorem d_M_act_315 : decode prog_7_method_48_code 315 = .ok (.iload 5, 2) := by decide +kernel
theorem d_M_act_317 : decode prog_7_method_48_code 317 = .ok (.iastore, 1) := by decide +kernel
theorem d_M_act_318 : decode prog_7_method_48_code 318 = .ok (.goto 54, 3) := by decide +kernel
theorem d_M_act_321 : decode prog_7_method_48_code 321 = .ok (.aload_n 0, 1) := by decide +kernel
theorem d_M_act_322 : decode prog_7_method_48_code 322 = .ok (.iload_n 1, 1) := by decide +kernel
theorem d_M_act_323 : decode prog_7_method_48_code 323 = .ok (.iload_n 2, 1) := by decide +kernel
theorem d_M_act_324 : decode prog_7_method_48_code 324 = .ok (.iload 5, 2) := by decide +kernel
theorem d_M_act_326 : decode prog_7_method_48_code 326 = .ok (.invokevirtual 238, 3) := by decide +kernel
theorem d_M_act_329 : decode prog_7_method_48_code 329 = .ok (.goto 43, 3) := by decide +kernel
theorem d_M_act_332 : decode prog_7_method_48_code 332 = .ok (.aload_n 0, 1) := by decide +kernel
theorem d_M_act_333 : decode prog_7_method_48_code 333 = .ok (.getfield 103, 3) := by decide +kernel
theorem d_M_act_336 : decode prog_7_method_48_code 336 = .ok (.iload_n 3, 1) := by decide +kernel
theorem d_M_act_337 : decode prog_7_method_48_code 337 = .ok (.iload 5, 2) := by decide +kernel
theorem d_M_act_339 : decode prog_7_method_48_code 339 = .ok (.ifCond .lt 13, 3) := by decide +kernel
theorem d_M_act_342 : decode prog_7_method_48_code 342 = .ok (.aload_n 0, 1) := by decide +kernel
theorem d_M_act_343 : decode prog_7_method_48_code 343 = .ok (.getfield 88, 3) := by decide +kernel
theorem d_M_act_346 : decode prog_7_method_48_code 346 = .ok (.iload 5, 2) := by decide +kernel
theorem d_M_act_348 : decode prog_7_method_48_code 348 = .ok (.iaload, 1) := by decide +kernel
theorem d_M_act_349 : decode prog_7_method_48_code 349 = .ok (.goto 5, 3) := by decide +kernel
theorem d_M_act_352 : decode prog_7_method_48_code 352 = .ok (.iload 4, 2) := by decide +kernel
theorem d_M_act_354 : decode prog_7_method_48_code 354 = .ok (.iastore, 1) := by decide +kernel
theorem d_M_act_355 : decode prog_7_method_48_code 355 = .ok (.goto 17, 3) := by decide +kernel
theorem d_M_act_358 : decode prog_7_method_48_code 358 = .ok (.iload 4, 2) := by decide +kernel
theorem d_M_act_360 : decode prog_7_method_48_code 360 = .ok (.ifCond .lt 12, 3) := by decide +kernel
theorem d_M_act_363 : decode prog_7_method_48_code 363 = .ok (.aload_n 0, 1) := by decide +kernel
theorem d_M_act_364 : decode prog_7_method_48_code 364 = .ok (.getfield 88, 3) := by decide +kernel
theorem d_M_act_367 : decode prog_7_method_48_code 367 = .ok (.iload 4, 2) := by decide +kernel
theorem d_M_act_369 : decode prog_7_method_48_code 369 = .ok (.iload 5, 2) := by decide +kernel
theorem d_M_act_371 : decode prog_7_method_48_code 371 = .ok (.iastore, 1) := by decide +kernel
theorem d_M_act_372 : decode prog_7_method_48_code 372 = .ok (.return_, 1) := by decide +kernel
theorem r_M_inField_0 {Q : Option mV → mS → Prop} {σ : mS} {x1 x2 : Int32} (h : MU M_M_isSite [.inr (25, 0), .inl x1] σ (fun r s1 => ∃ r3, r = some (.inl r3) ∧ ((r3 = (0 : Int32) → (Q (some (.inl (-1 : Int32))) s1)) ∧ (¬ r3 = (0 : Int32) → (MU M_M_isField [.inr (25, 0), .inl x2] s1 (fun r s4 => ∃ r6, r = some (.inl r6) ∧ ((¬ r6 = (0 : Int32) → (MU M_M_know [.inr (25, 0)] s4 (fun r s7 => r = none ∧ (vp_in (((nI 8) * x1) + x2) 160 ∧ (Q (some (.inl (s7 41 (((nI 8) * x1) + x2).toNatClampNeg))) s7))))) ∧ (r6 = (0 : Int32) → (Q (some (.inl (-1 : Int32))) s4))))))))) : J M_M_inField Q 0 [some (.inr (25, 0)), some (.inl x1), some (.inl x2)] [] σ :=
  J_aload_n (i := 0) rfl rfl d_M_inField_0 <|
  J_iload_n (i := 1) rfl rfl d_M_inField_1 <|
  kM_216_i rfl rfl rfl (args := [.inl x1]) (h) d_M_inField_2 (fun r3 s1 h2 =>
  J_if_eq (tgt := 16) d_M_inField_5 (by decide) (fun c10 =>
  J_iconst (v := (-1 : Int32)) d_M_inField_16 (by decide) <|
  J_iret rfl d_M_inField_17 (((h2).1 c10))) (fun c10 =>
  J_aload_n (i := 0) rfl rfl d_M_inField_8 <|
  J_iload_n (i := 2) rfl rfl d_M_inField_9 <|
  kM_144_i rfl rfl rfl (args := [.inl x2]) (((h2).2 c10)) d_M_inField_10 (fun r6 s4 h5 =>
  J_if_ne (tgt := 18) d_M_inField_13 (by decide) (fun c9 =>
  J_aload_n (i := 0) rfl rfl d_M_inField_18 <|
  kM_213_v rfl rfl rfl (args := []) (((h5).1 c9)) d_M_inField_19 (fun s7 h8 =>
  J_aload_n (i := 0) rfl rfl d_M_inField_22 <|
  gM_55 rfl d_M_inField_23 <|
  J_bipush (v := (nI 8)) d_M_inField_26 (by decide) <|
  J_iload_n (i := 1) rfl rfl d_M_inField_28 <|
  J_imul d_M_inField_29 <|
  J_iload_n (i := 2) rfl rfl d_M_inField_30 <|
  J_iadd d_M_inField_31 <|
  J_iald (h8).1 d_M_inField_32 <|
  J_iret rfl d_M_inField_33 ((h8).2))) (fun c9 =>
  J_iconst (v := (-1 : Int32)) d_M_inField_16 (by decide) <|
  J_iret rfl d_M_inField_17 (((h5).2 c9))))))
theorem r_M_element_0 {Q : Option mV → mS → Prop} {σ : mS} {x1 : Int32} (h : MU M_M_isSite [.inr (25, 0), .inl x1] σ (fun r s1 => ∃ r3, r = some (.inl r3) ∧ ((¬ r3 = (0 : Int32) → (MU M_M_know [.inr (25, 0)] s1 (fun r s4 => r = none ∧ (vp_in x1 20 ∧ (Q (some (.inl (s4 43 x1.toNatClampNeg))) s4))))) ∧ (r3 = (0 : Int32) → (Q (some (.inl (-1 : Int32))) s1))))) : J M_M_element Q 0 [some (.inr (25, 0)), some (.inl x1)] [] σ :=
  J_aload_n (i := 0) rfl rfl d_M_element_0 <|
  J_iload_n (i := 1) rfl rfl d_M_element_1 <|
  kM_216_i rfl rfl rfl (args := [.inl x1]) (h) d_M_element_2 (fun r3 s1 h2 =>
  J_if_ne (tgt := 10) d_M_element_5 (by decide) (fun c6 =>
  J_aload_n (i := 0) rfl rfl d_M_element_10 <|
  kM_213_v rfl rfl rfl (args := []) (((h2).1 c6)) d_M_element_11 (fun s4 h5 =>
  J_aload_n (i := 0) rfl rfl d_M_element_14 <|
  gM_61 rfl d_M_element_15 <|
  J_iload_n (i := 1) rfl rfl d_M_element_18 <|
  J_iald (h5).1 d_M_element_19 <|
  J_iret rfl d_M_element_20 ((h5).2))) (fun c6 =>
  J_iconst (v := (-1 : Int32)) d_M_element_8 (by decide) <|
  J_iret rfl d_M_element_9 (((h2).2 c6))))
theorem r_M_inStatic_0 {Q : Option mV → mS → Prop} {σ : mS} {x1 : Int32} (h : MU M_M_isStatic [.inl x1] σ (fun r s1 => ∃ r3, r = some (.inl r3) ∧ ((¬ r3 = (0 : Int32) → (MU M_M_know [.inr (25, 0)] s1 (fun r s4 => r = none ∧ (vp_in x1 4 ∧ (Q (some (.inl (s4 45 x1.toNatClampNeg))) s4))))) ∧ (r3 = (0 : Int32) → (Q (some (.inl (-1 : Int32))) s1))))) : J M_M_inStatic Q 0 [some (.inr (25, 0)), some (.inl x1)] [] σ :=
  J_iload_n (i := 1) rfl rfl d_M_inStatic_0 <|
  kM_147_i rfl rfl rfl (args := [.inl x1]) (h) d_M_inStatic_1 (fun r3 s1 h2 =>
  J_if_ne (tgt := 9) d_M_inStatic_4 (by decide) (fun c6 =>
  J_aload_n (i := 0) rfl rfl d_M_inStatic_9 <|
  kM_213_v rfl rfl rfl (args := []) (((h2).1 c6)) d_M_inStatic_10 (fun s4 h5 =>
  J_aload_n (i := 0) rfl rfl d_M_inStatic_13 <|
  gM_67 rfl d_M_inStatic_14 <|
  J_iload_n (i := 1) rfl rfl d_M_inStatic_17 <|
  J_iald (h5).1 d_M_inStatic_18 <|
  J_iret rfl d_M_inStatic_19 ((h5).2))) (fun c6 =>
  J_iconst (v := (-1 : Int32)) d_M_inStatic_7 (by decide) <|
  J_iret rfl d_M_inStatic_8 (((h2).2 c6))))
theorem r_M_reached_0 {Q : Option mV → mS → Prop} {σ : mS} {x1 : Int32} (h : MU M_M_isMethod [.inr (25, 0), .inl x1] σ (fun r s1 => ∃ r3, r = some (.inl r3) ∧ ((¬ r3 = (0 : Int32) → (MU M_M_know [.inr (25, 0)] s1 (fun r s4 => r = none ∧ (J M_M_reached Q 18 [some (.inr (25, 0)), some (.inl x1), some (.inl (0 : Int32)), some (.inl (0 : Int32))] [] s4)))) ∧ (r3 = (0 : Int32) → (Q (some (.inl (-1 : Int32))) s1))))) : J M_M_reached Q 0 [some (.inr (25, 0)), some (.inl x1), none, none] [] σ :=
  J_aload_n (i := 0) rfl rfl d_M_reached_0 <|
  J_iload_n (i := 1) rfl rfl d_M_reached_1 <|
  kM_150_i rfl rfl rfl (args := [.inl x1]) (h) d_M_reached_2 (fun r3 s1 h2 =>
  J_if_ne (tgt := 10) d_M_reached_5 (by decide) (fun c6 =>
  J_aload_n (i := 0) rfl rfl d_M_reached_10 <|
  kM_213_v rfl rfl rfl (args := []) (((h2).1 c6)) d_M_reached_11 (fun s4 h5 =>
  J_iconst (v := (0 : Int32)) d_M_reached_14 (by decide) <|
  J_istore_n (i := 2) (ls' := [some (.inr (25, 0)), some (.inl x1), some (.inl (0 : Int32)), none]) rfl rfl rfl rfl d_M_reached_15 <|
  J_iconst (v := (0 : Int32)) d_M_reached_16 (by decide) <|
  J_istore_n (i := 3) (ls' := [some (.inr (25, 0)), some (.inl x1), some (.inl (0 : Int32)), some (.inl (0 : Int32))]) rfl rfl rfl rfl d_M_reached_17 <|
  h5)) (fun c6 =>
  J_iconst (v := (-1 : Int32)) d_M_reached_8 (by decide) <|
  J_iret rfl d_M_reached_9 (((h2).2 c6))))
theorem r_M_reached_18 {Q : Option mV → mS → Prop} {σ : mS} {x1 x2 x3 : Int32} (h : ((nI 21) ≤ x3 → (Q (some (.inl x2)) σ)) ∧ (¬ (nI 21) ≤ x3 → (vp_in x1 10 ∧ (J M_M_reached Q 18 [some (.inr (25, 0)), some (.inl x1), some (.inl (x2 + (((σ 47 x1.toNatClampNeg) >>> (x3 &&& 31)) &&& (1 : Int32)))), some (.inl (x3 + 1))] [] σ)))) : J M_M_reached Q 18 [some (.inr (25, 0)), some (.inl x1), some (.inl x2), some (.inl x3)] [] σ :=
  J_iload_n (i := 3) rfl rfl d_M_reached_18 <|
  J_bipush (v := (nI 21)) d_M_reached_19 (by decide) <|
  J_icmp_ge (tgt := 43) d_M_reached_21 (by decide) (fun c8 =>
  J_iload_n (i := 2) rfl rfl d_M_reached_43 <|
  J_iret rfl d_M_reached_44 (((h).1 c8))) (fun c8 =>
  J_iload_n (i := 2) rfl rfl d_M_reached_24 <|
  J_aload_n (i := 0) rfl rfl d_M_reached_25 <|
  gM_73 rfl d_M_reached_26 <|
  J_iload_n (i := 1) rfl rfl d_M_reached_29 <|
  J_iald (((h).2 c8)).1 d_M_reached_30 <|
  J_iload_n (i := 3) rfl rfl d_M_reached_31 <|
  J_ishr d_M_reached_32 <|
  J_iconst (v := (1 : Int32)) d_M_reached_33 (by decide) <|
  J_iand d_M_reached_34 <|
  J_iadd d_M_reached_35 <|
  J_istore_n (i := 2) (ls' := [some (.inr (25, 0)), some (.inl x1), some (.inl (x2 + (((σ 47 x1.toNatClampNeg) >>> (x3 &&& 31)) &&& (1 : Int32)))), some (.inl x3)]) rfl rfl rfl rfl d_M_reached_36 <|
  J_iinc (i := 3) (v := (x3 + 1)) (ls' := [some (.inr (25, 0)), some (.inl x1), some (.inl (x2 + (((σ 47 x1.toNatClampNeg) >>> (x3 &&& 31)) &&& (1 : Int32)))), some (.inl (x3 + 1))]) rfl rfl rfl rfl rfl d_M_reached_37 <|
  J_goto (tgt := 18) d_M_reached_40 (by decide) <|
  (((h).2 c8)).2)
theorem r_M_may_0 {Q : Option mV → mS → Prop} {σ : mS} {x1 : Int32} (h : (x1 < (0 : Int32) → (Q (some (.inl (-1 : Int32))) σ)) ∧ (¬ x1 < (0 : Int32) → ((x1 < (σ 25 7) → (vp_in x1 60 ∧ (((σ 31 x1.toNatClampNeg) = (nI 4) → (J M_M_may Q 38 [some (.inr (25, 0)), some (.inl x1), none, none, none, none] [] σ)) ∧ (¬ (σ 31 x1.toNatClampNeg) = (nI 4) → (vp_in x1 60 ∧ (((σ 31 x1.toNatClampNeg) = (nI 7) → (J M_M_may Q 38 [some (.inr (25, 0)), some (.inl x1), none, none, none, none] [] σ)) ∧ (¬ (σ 31 x1.toNatClampNeg) = (nI 7) → (Q (some (.inl (-nI 3))) σ)))))))) ∧ (¬ x1 < (σ 25 7) → (Q (some (.inl (-1 : Int32))) σ))))) : J M_M_may Q 0 [some (.inr (25, 0)), some (.inl x1), none, none, none, none] [] σ :=
  J_iload_n (i := 1) rfl rfl d_M_may_0 <|
  J_if_lt (tgt := 12) d_M_may_1 (by decide) (fun c4 =>
  J_iconst (v := (-1 : Int32)) d_M_may_12 (by decide) <|
  J_iret rfl d_M_may_13 (((h).1 c4))) (fun c4 =>
  J_iload_n (i := 1) rfl rfl d_M_may_4 <|
  J_aload_n (i := 0) rfl rfl d_M_may_5 <|
  gM_157 rfl d_M_may_6 <|
  J_icmp_lt (tgt := 14) d_M_may_9 (by decide) (fun c3 =>
  J_aload_n (i := 0) rfl rfl d_M_may_14 <|
  gM_25 rfl d_M_may_15 <|
  J_iload_n (i := 1) rfl rfl d_M_may_18 <|
  J_iald (((((h).2 c4)).1 c3)).1 d_M_may_19 <|
  J_iconst (v := (nI 4)) d_M_may_20 (by decide) <|
  J_icmp_eq (tgt := 38) d_M_may_21 (by decide) (fun c2 =>
  (((((((h).2 c4)).1 c3)).2).1 c2)) (fun c2 =>
  J_aload_n (i := 0) rfl rfl d_M_may_24 <|
  gM_25 rfl d_M_may_25 <|
  J_iload_n (i := 1) rfl rfl d_M_may_28 <|
  J_iald ((((((((h).2 c4)).1 c3)).2).2 c2)).1 d_M_may_29 <|
  J_bipush (v := (nI 7)) d_M_may_30 (by decide) <|
  J_icmp_eq (tgt := 38) d_M_may_32 (by decide) (fun c1 =>
  ((((((((((h).2 c4)).1 c3)).2).2 c2)).2).1 c1)) (fun c1 =>
  J_bipush (v := (-nI 3)) d_M_may_35 (by decide) <|
  J_iret rfl d_M_may_37 (((((((((((h).2 c4)).1 c3)).2).2 c2)).2).2 c1))))) (fun c3 =>
  J_iconst (v := (-1 : Int32)) d_M_may_12 (by decide) <|
  J_iret rfl d_M_may_13 (((((h).2 c4)).2 c3))))
theorem r_M_may_38 {Q : Option mV → mS → Prop} {σ : mS} {x1 : Int32} {u2 u3 u4 u5 : Option mV} (h : MU M_M_know [.inr (25, 0)] σ (fun r s5 => r = none ∧ (vp_in x1 60 ∧ (vp_in x1 60 ∧ (MU M_M_allOf [.inr (25, 0), .inl (s5 30 x1.toNatClampNeg), .inl (s5 33 x1.toNatClampNeg)] s5 (fun r s7 => ∃ r9, r = some (.inl r9) ∧ (J M_M_may Q 64 [some (.inr (25, 0)), some (.inl x1), some (.inl r9), some (.inl (0 : Int32)), some (.inl (0 : Int32)), u5] [] s7))))))) : J M_M_may Q 38 [some (.inr (25, 0)), some (.inl x1), u2, u3, u4, u5] [] σ :=
  J_aload_n (i := 0) rfl rfl d_M_may_38 <|
  kM_213_v rfl rfl rfl (args := []) (h) d_M_may_39 (fun s5 h6 =>
  J_aload_n (i := 0) rfl rfl d_M_may_42 <|
  J_aload_n (i := 0) rfl rfl d_M_may_43 <|
  gM_22 rfl d_M_may_44 <|
  J_iload_n (i := 1) rfl rfl d_M_may_47 <|
  J_iald (h6).1 d_M_may_48 <|
  J_aload_n (i := 0) rfl rfl d_M_may_49 <|
  gM_31 rfl d_M_may_50 <|
  J_iload_n (i := 1) rfl rfl d_M_may_53 <|
  J_iald ((h6).2).1 d_M_may_54 <|
  kM_183_i rfl rfl rfl (args := [.inl (s5 30 x1.toNatClampNeg), .inl (s5 33 x1.toNatClampNeg)]) (((h6).2).2) d_M_may_55 (fun r9 s7 h8 =>
  J_istore_n (i := 2) (ls' := [some (.inr (25, 0)), some (.inl x1), some (.inl r9), u3, u4, u5]) rfl rfl rfl rfl d_M_may_58 <|
  J_iconst (v := (0 : Int32)) d_M_may_59 (by decide) <|
  J_istore_n (i := 3) (ls' := [some (.inr (25, 0)), some (.inl x1), some (.inl r9), some (.inl (0 : Int32)), u4, u5]) rfl rfl rfl rfl d_M_may_60 <|
  J_iconst (v := (0 : Int32)) d_M_may_61 (by decide) <|
  J_istore (i := 4) (ls' := [some (.inr (25, 0)), some (.inl x1), some (.inl r9), some (.inl (0 : Int32)), some (.inl (0 : Int32)), u5]) rfl rfl rfl d_M_may_62 <|
  h8))
theorem r_M_may_64 {Q : Option mV → mS → Prop} {σ : mS} {x1 x2 x3 x4 : Int32} {u5 : Option mV} (h : ((σ 25 16) ≤ x4 → (Q (some (.inl x3)) σ)) ∧ (¬ (σ 25 16) ≤ x4 → ((¬ ((x2 >>> (x4 &&& 31)) &&& (1 : Int32)) = (0 : Int32) → (vp_in x1 60 ∧ ((¬ (σ 31 x1.toNatClampNeg) = (nI 4) → (vp_in x4 20 ∧ (vp_in x1 60 ∧ (MU M_M_found [.inr (25, 0), .inl (σ 38 x4.toNatClampNeg), .inl (σ 34 x1.toNatClampNeg)] σ (fun r s10 => ∃ r12, r = some (.inl r12) ∧ (((0 : Int32) ≤ r12 → (J M_M_may Q 64 [some (.inr (25, 0)), some (.inl x1), some (.inl x2), some (.inl (x3 ||| ((1 : Int32) <<< (r12 &&& 31)))), some (.inl (x4 + 1)), some (.inl r12)] [] s10)) ∧ (¬ (0 : Int32) ≤ r12 → (J M_M_may Q 64 [some (.inr (25, 0)), some (.inl x1), some (.inl x2), some (.inl (x3 ||| (0 : Int32))), some (.inl (x4 + 1)), some (.inl r12)] [] s10)))))))) ∧ ((σ 31 x1.toNatClampNeg) = (nI 4) → (vp_in x4 20 ∧ (vp_in x1 60 ∧ (MU M_M_isUnder [.inr (25, 0), .inl (σ 38 x4.toNatClampNeg), .inl (σ 34 x1.toNatClampNeg)] σ (fun r s16 => ∃ r18, r = some (.inl r18) ∧ ((r18 = (0 : Int32) → (J M_M_may Q 64 [some (.inr (25, 0)), some (.inl x1), some (.inl x2), some (.inl (x3 ||| ((1 : Int32) <<< (x4 &&& 31)))), some (.inl (x4 + 1)), u5] [] s16)) ∧ (¬ r18 = (0 : Int32) → (J M_M_may Q 64 [some (.inr (25, 0)), some (.inl x1), some (.inl x2), some (.inl (x3 ||| (0 : Int32))), some (.inl (x4 + 1)), u5] [] s16))))))))))) ∧ (((x2 >>> (x4 &&& 31)) &&& (1 : Int32)) = (0 : Int32) → (J M_M_may Q 64 [some (.inr (25, 0)), some (.inl x1), some (.inl x2), some (.inl x3), some (.inl (x4 + 1)), u5] [] σ))))) : J M_M_may Q 64 [some (.inr (25, 0)), some (.inl x1), some (.inl x2), some (.inl x3), some (.inl x4), u5] [] σ :=
  J_iload (i := 4) rfl d_M_may_64 <|
  J_aload_n (i := 0) rfl rfl d_M_may_66 <|
  gM_160 rfl d_M_may_67 <|
  J_icmp_ge (tgt := 170) d_M_may_70 (by decide) (fun c24 =>
  J_iload_n (i := 3) rfl rfl d_M_may_170 <|
  J_iret rfl d_M_may_171 (((h).1 c24))) (fun c24 =>
  J_iload_n (i := 2) rfl rfl d_M_may_73 <|
  J_iload (i := 4) rfl d_M_may_74 <|
  J_ishr d_M_may_76 <|
  J_iconst (v := (1 : Int32)) d_M_may_77 (by decide) <|
  J_iand d_M_may_78 <|
  J_if_ne (tgt := 85) d_M_may_79 (by decide) (fun c23 =>
  J_aload_n (i := 0) rfl rfl d_M_may_85 <|
  gM_25 rfl d_M_may_86 <|
  J_iload_n (i := 1) rfl rfl d_M_may_89 <|
  J_iald (((((h).2 c24)).1 c23)).1 d_M_may_90 <|
  J_iconst (v := (nI 4)) d_M_may_91 (by decide) <|
  J_icmp_ne (tgt := 129) d_M_may_92 (by decide) (fun c22 =>
  J_aload_n (i := 0) rfl rfl d_M_may_129 <|
  J_aload_n (i := 0) rfl rfl d_M_may_130 <|
  gM_46 rfl d_M_may_131 <|
  J_iload (i := 4) rfl d_M_may_134 <|
  J_iald ((((((((h).2 c24)).1 c23)).2).1 c22)).1 d_M_may_136 <|
  J_aload_n (i := 0) rfl rfl d_M_may_137 <|
  gM_34 rfl d_M_may_138 <|
  J_iload_n (i := 1) rfl rfl d_M_may_141 <|
  J_iald (((((((((h).2 c24)).1 c23)).2).1 c22)).2).1 d_M_may_142 <|
  kM_180_i rfl rfl rfl (args := [.inl (σ 38 x4.toNatClampNeg), .inl (σ 34 x1.toNatClampNeg)]) ((((((((((h).2 c24)).1 c23)).2).1 c22)).2).2) d_M_may_143 (fun r12 s10 h11 =>
  J_istore (i := 5) (ls' := [some (.inr (25, 0)), some (.inl x1), some (.inl x2), some (.inl x3), some (.inl x4), some (.inl r12)]) rfl rfl rfl d_M_may_146 <|
  J_iload_n (i := 3) rfl rfl d_M_may_148 <|
  J_iload (i := 5) rfl d_M_may_149 <|
  J_if_ge (tgt := 158) d_M_may_151 (by decide) (fun c15 =>
  J_iconst (v := (1 : Int32)) d_M_may_158 (by decide) <|
  J_iload (i := 5) rfl d_M_may_159 <|
  J_ishl d_M_may_161 <|
  J_ior d_M_may_162 <|
  J_istore_n (i := 3) (ls' := [some (.inr (25, 0)), some (.inl x1), some (.inl x2), some (.inl (x3 ||| ((1 : Int32) <<< (r12 &&& 31)))), some (.inl x4), some (.inl r12)]) rfl rfl rfl rfl d_M_may_163 <|
  J_iinc (i := 4) (v := (x4 + 1)) (ls' := [some (.inr (25, 0)), some (.inl x1), some (.inl x2), some (.inl (x3 ||| ((1 : Int32) <<< (r12 &&& 31)))), some (.inl (x4 + 1)), some (.inl r12)]) rfl rfl rfl rfl rfl d_M_may_164 <|
  J_goto (tgt := 64) d_M_may_167 (by decide) <|
  ((h11).1 c15)) (fun c15 =>
  J_iconst (v := (0 : Int32)) d_M_may_154 (by decide) <|
  J_goto (tgt := 162) d_M_may_155 (by decide) <|
  J_ior d_M_may_162 <|
  J_istore_n (i := 3) (ls' := [some (.inr (25, 0)), some (.inl x1), some (.inl x2), some (.inl (x3 ||| (0 : Int32))), some (.inl x4), some (.inl r12)]) rfl rfl rfl rfl d_M_may_163 <|
  J_iinc (i := 4) (v := (x4 + 1)) (ls' := [some (.inr (25, 0)), some (.inl x1), some (.inl x2), some (.inl (x3 ||| (0 : Int32))), some (.inl (x4 + 1)), some (.inl r12)]) rfl rfl rfl rfl rfl d_M_may_164 <|
  J_goto (tgt := 64) d_M_may_167 (by decide) <|
  ((h11).2 c15)))) (fun c22 =>
  J_iload_n (i := 3) rfl rfl d_M_may_95 <|
  J_aload_n (i := 0) rfl rfl d_M_may_96 <|
  J_aload_n (i := 0) rfl rfl d_M_may_97 <|
  gM_46 rfl d_M_may_98 <|
  J_iload (i := 4) rfl d_M_may_101 <|
  J_iald ((((((((h).2 c24)).1 c23)).2).2 c22)).1 d_M_may_103 <|
  J_aload_n (i := 0) rfl rfl d_M_may_104 <|
  gM_34 rfl d_M_may_105 <|
  J_iload_n (i := 1) rfl rfl d_M_may_108 <|
  J_iald (((((((((h).2 c24)).1 c23)).2).2 c22)).2).1 d_M_may_109 <|
  kM_119_i rfl rfl rfl (args := [.inl (σ 38 x4.toNatClampNeg), .inl (σ 34 x1.toNatClampNeg)]) ((((((((((h).2 c24)).1 c23)).2).2 c22)).2).2) d_M_may_110 (fun r18 s16 h17 =>
  J_if_eq (tgt := 120) d_M_may_113 (by decide) (fun c21 =>
  J_iconst (v := (1 : Int32)) d_M_may_120 (by decide) <|
  J_iload (i := 4) rfl d_M_may_121 <|
  J_ishl d_M_may_123 <|
  J_ior d_M_may_124 <|
  J_istore_n (i := 3) (ls' := [some (.inr (25, 0)), some (.inl x1), some (.inl x2), some (.inl (x3 ||| ((1 : Int32) <<< (x4 &&& 31)))), some (.inl x4), u5]) rfl rfl rfl rfl d_M_may_125 <|
  J_goto (tgt := 164) d_M_may_126 (by decide) <|
  J_iinc (i := 4) (v := (x4 + 1)) (ls' := [some (.inr (25, 0)), some (.inl x1), some (.inl x2), some (.inl (x3 ||| ((1 : Int32) <<< (x4 &&& 31)))), some (.inl (x4 + 1)), u5]) rfl rfl rfl rfl rfl d_M_may_164 <|
  J_goto (tgt := 64) d_M_may_167 (by decide) <|
  ((h17).1 c21)) (fun c21 =>
  J_iconst (v := (0 : Int32)) d_M_may_116 (by decide) <|
  J_goto (tgt := 124) d_M_may_117 (by decide) <|
  J_ior d_M_may_124 <|
  J_istore_n (i := 3) (ls' := [some (.inr (25, 0)), some (.inl x1), some (.inl x2), some (.inl (x3 ||| (0 : Int32))), some (.inl x4), u5]) rfl rfl rfl rfl d_M_may_125 <|
  J_goto (tgt := 164) d_M_may_126 (by decide) <|
  J_iinc (i := 4) (v := (x4 + 1)) (ls' := [some (.inr (25, 0)), some (.inl x1), some (.inl x2), some (.inl (x3 ||| (0 : Int32))), some (.inl (x4 + 1)), u5]) rfl rfl rfl rfl rfl d_M_may_164 <|
  J_goto (tgt := 64) d_M_may_167 (by decide) <|
  ((h17).2 c21))))) (fun c23 =>
  J_goto (tgt := 164) d_M_may_82 (by decide) <|
  J_iinc (i := 4) (v := (x4 + 1)) (ls' := [some (.inr (25, 0)), some (.inl x1), some (.inl x2), some (.inl x3), some (.inl (x4 + 1)), u5]) rfl rfl rfl rfl rfl d_M_may_164 <|
  J_goto (tgt := 64) d_M_may_167 (by decide) <|
  ((((h).2 c24)).2 c23)))
theorem r_M_alias_0 {Q : Option mV → mS → Prop} {σ : mS} {x1 x2 x3 x4 : Int32} (h : MU M_M_isMethod [.inr (25, 0), .inl x1] σ (fun r s1 => ∃ r3, r = some (.inl r3) ∧ ((r3 = (0 : Int32) → (Q (some (.inl (-1 : Int32))) s1)) ∧ (¬ r3 = (0 : Int32) → (MU M_M_isName [.inl x2] s1 (fun r s4 => ∃ r6, r = some (.inl r6) ∧ ((r6 = (0 : Int32) → (Q (some (.inl (-1 : Int32))) s4)) ∧ (¬ r6 = (0 : Int32) → (MU M_M_isMethod [.inr (25, 0), .inl x3] s4 (fun r s7 => ∃ r9, r = some (.inl r9) ∧ ((r9 = (0 : Int32) → (Q (some (.inl (-1 : Int32))) s7)) ∧ (¬ r9 = (0 : Int32) → (MU M_M_isName [.inl x4] s7 (fun r s10 => ∃ r12, r = some (.inl r12) ∧ ((¬ r12 = (0 : Int32) → (MU M_M_know [.inr (25, 0)] s10 (fun r s13 => r = none ∧ (MU M_M_allOf [.inr (25, 0), .inl x1, .inl x2] s13 (fun r s15 => ∃ r17, r = some (.inl r17) ∧ (MU M_M_allOf [.inr (25, 0), .inl x3, .inl x4] s15 (fun r s18 => ∃ r20, r = some (.inl r20) ∧ (((r17 &&& r20) = (0 : Int32) → (Q (some (.inl (0 : Int32))) s18)) ∧ (¬ (r17 &&& r20) = (0 : Int32) → (Q (some (.inl (1 : Int32))) s18)))))))))) ∧ (r12 = (0 : Int32) → (Q (some (.inl (-1 : Int32))) s10))))))))))))))))) : J M_M_alias Q 0 [some (.inr (25, 0)), some (.inl x1), some (.inl x2), some (.inl x3), some (.inl x4)] [] σ :=
  J_aload_n (i := 0) rfl rfl d_M_alias_0 <|
  J_iload_n (i := 1) rfl rfl d_M_alias_1 <|
  kM_150_i rfl rfl rfl (args := [.inl x1]) (h) d_M_alias_2 (fun r3 s1 h2 =>
  J_if_eq (tgt := 31) d_M_alias_5 (by decide) (fun c25 =>
  J_iconst (v := (-1 : Int32)) d_M_alias_31 (by decide) <|
  J_iret rfl d_M_alias_32 (((h2).1 c25))) (fun c25 =>
  J_iload_n (i := 2) rfl rfl d_M_alias_8 <|
  kM_141_i rfl rfl rfl (args := [.inl x2]) (((h2).2 c25)) d_M_alias_9 (fun r6 s4 h5 =>
  J_if_eq (tgt := 31) d_M_alias_12 (by decide) (fun c24 =>
  J_iconst (v := (-1 : Int32)) d_M_alias_31 (by decide) <|
  J_iret rfl d_M_alias_32 (((h5).1 c24))) (fun c24 =>
  J_aload_n (i := 0) rfl rfl d_M_alias_15 <|
  J_iload_n (i := 3) rfl rfl d_M_alias_16 <|
  kM_150_i rfl rfl rfl (args := [.inl x3]) (((h5).2 c24)) d_M_alias_17 (fun r9 s7 h8 =>
  J_if_eq (tgt := 31) d_M_alias_20 (by decide) (fun c23 =>
  J_iconst (v := (-1 : Int32)) d_M_alias_31 (by decide) <|
  J_iret rfl d_M_alias_32 (((h8).1 c23))) (fun c23 =>
  J_iload (i := 4) rfl d_M_alias_23 <|
  kM_141_i rfl rfl rfl (args := [.inl x4]) (((h8).2 c23)) d_M_alias_25 (fun r12 s10 h11 =>
  J_if_ne (tgt := 33) d_M_alias_28 (by decide) (fun c22 =>
  J_aload_n (i := 0) rfl rfl d_M_alias_33 <|
  kM_213_v rfl rfl rfl (args := []) (((h11).1 c22)) d_M_alias_34 (fun s13 h14 =>
  J_aload_n (i := 0) rfl rfl d_M_alias_37 <|
  J_iload_n (i := 1) rfl rfl d_M_alias_38 <|
  J_iload_n (i := 2) rfl rfl d_M_alias_39 <|
  kM_183_i rfl rfl rfl (args := [.inl x1, .inl x2]) (h14) d_M_alias_40 (fun r17 s15 h16 =>
  J_aload_n (i := 0) rfl rfl d_M_alias_43 <|
  J_iload_n (i := 3) rfl rfl d_M_alias_44 <|
  J_iload (i := 4) rfl d_M_alias_45 <|
  kM_183_i rfl rfl rfl (args := [.inl x3, .inl x4]) (h16) d_M_alias_47 (fun r20 s18 h19 =>
  J_iand d_M_alias_50 <|
  J_if_eq (tgt := 58) d_M_alias_51 (by decide) (fun c21 =>
  J_iconst (v := (0 : Int32)) d_M_alias_58 (by decide) <|
  J_iret rfl d_M_alias_59 (((h19).1 c21))) (fun c21 =>
  J_iconst (v := (1 : Int32)) d_M_alias_54 (by decide) <|
  J_goto (tgt := 59) d_M_alias_55 (by decide) <|
  J_iret rfl d_M_alias_59 (((h19).2 c21))))))) (fun c22 =>
  J_iconst (v := (-1 : Int32)) d_M_alias_31 (by decide) <|
  J_iret rfl d_M_alias_32 (((h11).2 c22))))))))))
theorem r_M_rounds_0 {Q : Option mV → mS → Prop} {σ : mS} (h : MU M_M_know [.inr (25, 0)] σ (fun r s1 => r = none ∧ (Q (some (.inl (s1 25 31))) s1))) : J M_M_rounds Q 0 [some (.inr (25, 0))] [] σ :=
  J_aload_n (i := 0) rfl rfl d_M_rounds_0 <|
  kM_213_v rfl rfl rfl (args := []) (h) d_M_rounds_1 (fun s1 h2 =>
  J_aload_n (i := 0) rfl rfl d_M_rounds_4 <|
  gM_189 rfl d_M_rounds_5 <|
  J_iret rfl d_M_rounds_8 (h2))
theorem r_M_when_0 {Q : Option mV → mS → Prop} {σ : mS} {x1 x2 x3 : Int32} (h : MU M_M_isMethod [.inr (25, 0), .inl x1] σ (fun r s1 => ∃ r3, r = some (.inl r3) ∧ ((r3 = (0 : Int32) → (Q (some (.inl (-1 : Int32))) s1)) ∧ (¬ r3 = (0 : Int32) → (MU M_M_isName [.inl x2] s1 (fun r s4 => ∃ r6, r = some (.inl r6) ∧ ((r6 = (0 : Int32) → (Q (some (.inl (-1 : Int32))) s4)) ∧ (¬ r6 = (0 : Int32) → (MU M_M_isSite [.inr (25, 0), .inl x3] s4 (fun r s7 => ∃ r9, r = some (.inl r9) ∧ ((¬ r9 = (0 : Int32) → (MU M_M_know [.inr (25, 0)] s7 (fun r s10 => r = none ∧ (vp_in ((((nI 120) * x1) + ((nI 20) * x2)) + x3) 1200 ∧ (∀ v12, v12 = (s10 49 ((((nI 120) * x1) + ((nI 20) * x2)) + x3).toNatClampNeg) → (((0 : Int32) ≤ v12 → (Q (some (.inl v12)) s10)) ∧ (¬ (0 : Int32) ≤ v12 → (Q (some (.inl (-nI 3))) s10)))))))) ∧ (r9 = (0 : Int32) → (Q (some (.inl (-1 : Int32))) s7))))))))))))) : J M_M_when Q 0 [some (.inr (25, 0)), some (.inl x1), some (.inl x2), some (.inl x3), none] [] σ :=
  J_aload_n (i := 0) rfl rfl d_M_when_0 <|
  J_iload_n (i := 1) rfl rfl d_M_when_1 <|
  kM_150_i rfl rfl rfl (args := [.inl x1]) (h) d_M_when_2 (fun r3 s1 h2 =>
  J_if_eq (tgt := 23) d_M_when_5 (by decide) (fun c16 =>
  J_iconst (v := (-1 : Int32)) d_M_when_23 (by decide) <|
  J_iret rfl d_M_when_24 (((h2).1 c16))) (fun c16 =>
  J_iload_n (i := 2) rfl rfl d_M_when_8 <|
  kM_141_i rfl rfl rfl (args := [.inl x2]) (((h2).2 c16)) d_M_when_9 (fun r6 s4 h5 =>
  J_if_eq (tgt := 23) d_M_when_12 (by decide) (fun c15 =>
  J_iconst (v := (-1 : Int32)) d_M_when_23 (by decide) <|
  J_iret rfl d_M_when_24 (((h5).1 c15))) (fun c15 =>
  J_aload_n (i := 0) rfl rfl d_M_when_15 <|
  J_iload_n (i := 3) rfl rfl d_M_when_16 <|
  kM_216_i rfl rfl rfl (args := [.inl x3]) (((h5).2 c15)) d_M_when_17 (fun r9 s7 h8 =>
  J_if_ne (tgt := 25) d_M_when_20 (by decide) (fun c14 =>
  J_aload_n (i := 0) rfl rfl d_M_when_25 <|
  kM_213_v rfl rfl rfl (args := []) (((h8).1 c14)) d_M_when_26 (fun s10 h11 =>
  J_aload_n (i := 0) rfl rfl d_M_when_29 <|
  gM_79 rfl d_M_when_30 <|
  J_bipush (v := (nI 120)) d_M_when_33 (by decide) <|
  J_iload_n (i := 1) rfl rfl d_M_when_35 <|
  J_imul d_M_when_36 <|
  J_bipush (v := (nI 20)) d_M_when_37 (by decide) <|
  J_iload_n (i := 2) rfl rfl d_M_when_39 <|
  J_imul d_M_when_40 <|
  J_iadd d_M_when_41 <|
  J_iload_n (i := 3) rfl rfl d_M_when_42 <|
  J_iadd d_M_when_43 <|
  J_iald (h11).1 d_M_when_44 <|
  J_namei (fun v12 ev12 =>
  J_istore (i := 4) (ls' := [some (.inr (25, 0)), some (.inl x1), some (.inl x2), some (.inl x3), some (.inl v12)]) rfl rfl rfl d_M_when_45 <|
  J_iload (i := 4) rfl d_M_when_47 <|
  J_if_ge (tgt := 57) d_M_when_49 (by decide) (fun c13 =>
  J_iload (i := 4) rfl d_M_when_57 <|
  J_iret rfl d_M_when_59 ((((((h11).2) v12 ev12)).1 c13))) (fun c13 =>
  J_bipush (v := (-nI 3)) d_M_when_52 (by decide) <|
  J_goto (tgt := 59) d_M_when_54 (by decide) <|
  J_iret rfl d_M_when_59 ((((((h11).2) v12 ev12)).2 c13)))))) (fun c14 =>
  J_iconst (v := (-1 : Int32)) d_M_when_23 (by decide) <|
  J_iret rfl d_M_when_24 (((h8).2 c14))))))))
theorem r_M_forgetRun_0 {Q : Option mV → mS → Prop} {σ : mS} (h : J M_M_forgetRun Q 17 [some (.inr (25, 0)), some (.inl (0 : Int32))] [] (m_up (m_up (m_up σ 25 32 (0 : Int32)) 25 37 (0 : Int32)) 25 43 (0 : Int32))) : J M_M_forgetRun Q 0 [some (.inr (25, 0)), none] [] σ :=
  J_aload_n (i := 0) rfl rfl d_M_forgetRun_0 <|
  J_iconst (v := (0 : Int32)) d_M_forgetRun_1 (by decide) <|
  pM_219 rfl d_M_forgetRun_2 <|
  J_aload_n (i := 0) rfl rfl d_M_forgetRun_5 <|
  J_iconst (v := (0 : Int32)) d_M_forgetRun_6 (by decide) <|
  pM_222 rfl d_M_forgetRun_7 <|
  J_aload_n (i := 0) rfl rfl d_M_forgetRun_10 <|
  J_iconst (v := (0 : Int32)) d_M_forgetRun_11 (by decide) <|
  pM_225 rfl d_M_forgetRun_12 <|
  J_iconst (v := (0 : Int32)) d_M_forgetRun_15 (by decide) <|
  J_istore_n (i := 1) (ls' := [some (.inr (25, 0)), some (.inl (0 : Int32))]) rfl rfl rfl rfl d_M_forgetRun_16 <|
  h
theorem r_M_forgetRun_17 {Q : Option mV → mS → Prop} {σ : mS} {x1 : Int32} (h : ((nI 60) ≤ x1 → (Q none σ)) ∧ (¬ (nI 60) ≤ x1 → (vp_in x1 60 ∧ (J M_M_forgetRun Q 17 [some (.inr (25, 0)), some (.inl (x1 + 1))] [] (m_up σ 58 x1.toNatClampNeg (0 : Int32)))))) : J M_M_forgetRun Q 17 [some (.inr (25, 0)), some (.inl x1)] [] σ :=
  J_iload_n (i := 1) rfl rfl d_M_forgetRun_17 <|
  J_bipush (v := (nI 60)) d_M_forgetRun_18 (by decide) <|
  J_icmp_ge (tgt := 36) d_M_forgetRun_20 (by decide) (fun c5 =>
  J_vret rfl d_M_forgetRun_36 (((h).1 c5))) (fun c5 =>
  J_aload_n (i := 0) rfl rfl d_M_forgetRun_23 <|
  gM_106 rfl d_M_forgetRun_24 <|
  J_iload_n (i := 1) rfl rfl d_M_forgetRun_27 <|
  J_iconst (v := (0 : Int32)) d_M_forgetRun_28 (by decide) <|
  J_iast (((h).2 c5)).1 d_M_forgetRun_29 <|
  J_iinc (i := 1) (v := (x1 + 1)) (ls' := [some (.inr (25, 0)), some (.inl (x1 + 1))]) rfl rfl rfl rfl rfl d_M_forgetRun_30 <|
  J_goto (tgt := 17) d_M_forgetRun_33 (by decide) <|
  (((h).2 c5)).2)
theorem r_M_open_0 {Q : Option mV → mS → Prop} {σ : mS} {x1 x2 x3 : Int32} (h : vp_in (σ 25 37) 10 ∧ (∀ t1, t1 = (m_up σ 54 (σ 25 37).toNatClampNeg x1) → (vp_in (t1 25 37) 10 ∧ (∀ t2, t2 = (m_up t1 55 (t1 25 37).toNatClampNeg x2) → (vp_in (t2 25 37) 10 ∧ (J M_M_open Q 33 [some (.inr (25, 0)), some (.inl x1), some (.inl x2), some (.inl x3), some (.inl (0 : Int32))] [] (m_up t2 56 (t2 25 37).toNatClampNeg x3))))))) : J M_M_open Q 0 [some (.inr (25, 0)), some (.inl x1), some (.inl x2), some (.inl x3), none] [] σ :=
  J_aload_n (i := 0) rfl rfl d_M_open_0 <|
  gM_94 rfl d_M_open_1 <|
  J_aload_n (i := 0) rfl rfl d_M_open_4 <|
  gM_222 rfl d_M_open_5 <|
  J_iload_n (i := 1) rfl rfl d_M_open_8 <|
  J_iast (h).1 d_M_open_9 <|
  J_names (fun t1 et1 =>
  J_aload_n (i := 0) rfl rfl d_M_open_10 <|
  gM_97 rfl d_M_open_11 <|
  J_aload_n (i := 0) rfl rfl d_M_open_14 <|
  gM_222 rfl d_M_open_15 <|
  J_iload_n (i := 2) rfl rfl d_M_open_18 <|
  J_iast ((((h).2) t1 et1)).1 d_M_open_19 <|
  J_names (fun t2 et2 =>
  J_aload_n (i := 0) rfl rfl d_M_open_20 <|
  gM_100 rfl d_M_open_21 <|
  J_aload_n (i := 0) rfl rfl d_M_open_24 <|
  gM_222 rfl d_M_open_25 <|
  J_iload_n (i := 3) rfl rfl d_M_open_28 <|
  J_iast (((((((h).2) t1 et1)).2) t2 et2)).1 d_M_open_29 <|
  J_iconst (v := (0 : Int32)) d_M_open_30 (by decide) <|
  J_istore (i := 4) (ls' := [some (.inr (25, 0)), some (.inl x1), some (.inl x2), some (.inl x3), some (.inl (0 : Int32))]) rfl rfl rfl d_M_open_31 <|
  (((((((h).2) t1 et1)).2) t2 et2)).2))
theorem r_M_open_33 {Q : Option mV → mS → Prop} {σ : mS} {x4 : Int32} {u1 u2 u3 : Option mV} (h : ((nI 6) ≤ x4 → (Q none (m_up σ 25 37 ((σ 25 37) + (1 : Int32))))) ∧ (¬ (nI 6) ≤ x4 → (vp_in (((nI 6) * (σ 25 37)) + x4) 60 ∧ (J M_M_open Q 33 [some (.inr (25, 0)), u1, u2, u3, some (.inl (x4 + 1))] [] (m_up σ 57 (((nI 6) * (σ 25 37)) + x4).toNatClampNeg (-1 : Int32)))))) : J M_M_open Q 33 [some (.inr (25, 0)), u1, u2, u3, some (.inl x4)] [] σ :=
  J_iload (i := 4) rfl d_M_open_33 <|
  J_bipush (v := (nI 6)) d_M_open_35 (by decide) <|
  J_icmp_ge (tgt := 62) d_M_open_37 (by decide) (fun c6 =>
  J_aload_n (i := 0) rfl rfl d_M_open_62 <|
  J_dup d_M_open_63 <|
  gM_222 rfl d_M_open_64 <|
  J_iconst (v := (1 : Int32)) d_M_open_67 (by decide) <|
  J_iadd d_M_open_68 <|
  pM_222 rfl d_M_open_69 <|
  J_vret rfl d_M_open_72 (((h).1 c6))) (fun c6 =>
  J_aload_n (i := 0) rfl rfl d_M_open_40 <|
  gM_103 rfl d_M_open_41 <|
  J_bipush (v := (nI 6)) d_M_open_44 (by decide) <|
  J_aload_n (i := 0) rfl rfl d_M_open_46 <|
  gM_222 rfl d_M_open_47 <|
  J_imul d_M_open_50 <|
  J_iload (i := 4) rfl d_M_open_51 <|
  J_iadd d_M_open_53 <|
  J_iconst (v := (-1 : Int32)) d_M_open_54 (by decide) <|
  J_iast (((h).2 c6)).1 d_M_open_55 <|
  J_iinc (i := 4) (v := (x4 + 1)) (ls' := [some (.inr (25, 0)), u1, u2, u3, some (.inl (x4 + 1))]) rfl rfl rfl rfl rfl d_M_open_56 <|
  J_goto (tgt := 33) d_M_open_59 (by decide) <|
  (((h).2 c6)).2)
theorem r_M_statementOf_0 {Q : Option mV → mS → Prop} {σ : mS} {x1 x2 : Int32} (h : J M_M_statementOf Q 5 [some (.inr (25, 0)), some (.inl x1), some (.inl x2), some (.inl x2), some (.inl (0 : Int32))] [] σ) : J M_M_statementOf Q 0 [some (.inr (25, 0)), some (.inl x1), some (.inl x2), none, none] [] σ :=
  J_iload_n (i := 2) rfl rfl d_M_statementOf_0 <|
  J_istore_n (i := 3) (ls' := [some (.inr (25, 0)), some (.inl x1), some (.inl x2), some (.inl x2), none]) rfl rfl rfl rfl d_M_statementOf_1 <|
  J_iconst (v := (0 : Int32)) d_M_statementOf_2 (by decide) <|
  J_istore (i := 4) (ls' := [some (.inr (25, 0)), some (.inl x1), some (.inl x2), some (.inl x2), some (.inl (0 : Int32))]) rfl rfl rfl d_M_statementOf_3 <|
  h
theorem r_M_statementOf_5 {Q : Option mV → mS → Prop} {σ : mS} {x1 x3 x4 : Int32} {u2 : Option mV} (h : ((σ 25 7) ≤ x4 → (Q (some (.inl (-1 : Int32))) σ)) ∧ (¬ (σ 25 7) ≤ x4 → (vp_in x4 60 ∧ ((¬ (σ 30 x4.toNatClampNeg) = x1 → (J M_M_statementOf Q 5 [some (.inr (25, 0)), some (.inl x1), u2, some (.inl x3), some (.inl (x4 + 1))] [] σ)) ∧ ((σ 30 x4.toNatClampNeg) = x1 → ((¬ x3 = (0 : Int32) → (J M_M_statementOf Q 5 [some (.inr (25, 0)), some (.inl x1), u2, some (.inl (x3 + (-1 : Int32))), some (.inl (x4 + 1))] [] σ)) ∧ (x3 = (0 : Int32) → (Q (some (.inl x4)) σ)))))))) : J M_M_statementOf Q 5 [some (.inr (25, 0)), some (.inl x1), u2, some (.inl x3), some (.inl x4)] [] σ :=
  J_iload (i := 4) rfl d_M_statementOf_5 <|
  J_aload_n (i := 0) rfl rfl d_M_statementOf_7 <|
  gM_157 rfl d_M_statementOf_8 <|
  J_icmp_ge (tgt := 41) d_M_statementOf_11 (by decide) (fun c3 =>
  J_iconst (v := (-1 : Int32)) d_M_statementOf_41 (by decide) <|
  J_iret rfl d_M_statementOf_42 (((h).1 c3))) (fun c3 =>
  J_aload_n (i := 0) rfl rfl d_M_statementOf_14 <|
  gM_22 rfl d_M_statementOf_15 <|
  J_iload (i := 4) rfl d_M_statementOf_18 <|
  J_iald (((h).2 c3)).1 d_M_statementOf_20 <|
  J_iload_n (i := 1) rfl rfl d_M_statementOf_21 <|
  J_icmp_ne (tgt := 35) d_M_statementOf_22 (by decide) (fun c2 =>
  J_iinc (i := 4) (v := (x4 + 1)) (ls' := [some (.inr (25, 0)), some (.inl x1), u2, some (.inl x3), some (.inl (x4 + 1))]) rfl rfl rfl rfl rfl d_M_statementOf_35 <|
  J_goto (tgt := 5) d_M_statementOf_38 (by decide) <|
  (((((h).2 c3)).2).1 c2)) (fun c2 =>
  J_iload_n (i := 3) rfl rfl d_M_statementOf_25 <|
  J_if_ne (tgt := 32) d_M_statementOf_26 (by decide) (fun c1 =>
  J_iinc (i := 3) (v := (x3 + (-1 : Int32))) (ls' := [some (.inr (25, 0)), some (.inl x1), u2, some (.inl (x3 + (-1 : Int32))), some (.inl x4)]) rfl (by rw [show Int32.ofInt (-1) = (-1 : Int32) from by decide]) rfl rfl rfl d_M_statementOf_32 <|
  J_iinc (i := 4) (v := (x4 + 1)) (ls' := [some (.inr (25, 0)), some (.inl x1), u2, some (.inl (x3 + (-1 : Int32))), some (.inl (x4 + 1))]) rfl rfl rfl rfl rfl d_M_statementOf_35 <|
  J_goto (tgt := 5) d_M_statementOf_38 (by decide) <|
  (((((((h).2 c3)).2).2 c2)).1 c1)) (fun c1 =>
  J_iload (i := 4) rfl d_M_statementOf_29 <|
  J_iret rfl d_M_statementOf_31 ((((((((h).2 c3)).2).2 c2)).2 c1)))))
theorem r_M_many_0 {Q : Option mV → mS → Prop} {σ : mS} {x1 : Int32} (h : J M_M_many Q 4 [some (.inr (25, 0)), some (.inl x1), some (.inl (0 : Int32)), some (.inl (0 : Int32))] [] σ) : J M_M_many Q 0 [some (.inr (25, 0)), some (.inl x1), none, none] [] σ :=
  J_iconst (v := (0 : Int32)) d_M_many_0 (by decide) <|
  J_istore_n (i := 2) (ls' := [some (.inr (25, 0)), some (.inl x1), some (.inl (0 : Int32)), none]) rfl rfl rfl rfl d_M_many_1 <|
  J_iconst (v := (0 : Int32)) d_M_many_2 (by decide) <|
  J_istore_n (i := 3) (ls' := [some (.inr (25, 0)), some (.inl x1), some (.inl (0 : Int32)), some (.inl (0 : Int32))]) rfl rfl rfl rfl d_M_many_3 <|
  h
theorem r_M_many_4 {Q : Option mV → mS → Prop} {σ : mS} {x1 x2 x3 : Int32} (h : ((σ 25 7) ≤ x3 → (Q (some (.inl x2)) σ)) ∧ (¬ (σ 25 7) ≤ x3 → (vp_in x3 60 ∧ ((¬ (σ 30 x3.toNatClampNeg) = x1 → (J M_M_many Q 4 [some (.inr (25, 0)), some (.inl x1), some (.inl (x2 + (0 : Int32))), some (.inl (x3 + 1))] [] σ)) ∧ ((σ 30 x3.toNatClampNeg) = x1 → (J M_M_many Q 4 [some (.inr (25, 0)), some (.inl x1), some (.inl (x2 + (1 : Int32))), some (.inl (x3 + 1))] [] σ)))))) : J M_M_many Q 4 [some (.inr (25, 0)), some (.inl x1), some (.inl x2), some (.inl x3)] [] σ :=
  J_iload_n (i := 3) rfl rfl d_M_many_4 <|
  J_aload_n (i := 0) rfl rfl d_M_many_5 <|
  gM_157 rfl d_M_many_6 <|
  J_icmp_ge (tgt := 36) d_M_many_9 (by decide) (fun c4 =>
  J_iload_n (i := 2) rfl rfl d_M_many_36 <|
  J_iret rfl d_M_many_37 (((h).1 c4))) (fun c4 =>
  J_iload_n (i := 2) rfl rfl d_M_many_12 <|
  J_aload_n (i := 0) rfl rfl d_M_many_13 <|
  gM_22 rfl d_M_many_14 <|
  J_iload_n (i := 3) rfl rfl d_M_many_17 <|
  J_iald (((h).2 c4)).1 d_M_many_18 <|
  J_iload_n (i := 1) rfl rfl d_M_many_19 <|
  J_icmp_ne (tgt := 27) d_M_many_20 (by decide) (fun c3 =>
  J_iconst (v := (0 : Int32)) d_M_many_27 (by decide) <|
  J_iadd d_M_many_28 <|
  J_istore_n (i := 2) (ls' := [some (.inr (25, 0)), some (.inl x1), some (.inl (x2 + (0 : Int32))), some (.inl x3)]) rfl rfl rfl rfl d_M_many_29 <|
  J_iinc (i := 3) (v := (x3 + 1)) (ls' := [some (.inr (25, 0)), some (.inl x1), some (.inl (x2 + (0 : Int32))), some (.inl (x3 + 1))]) rfl rfl rfl rfl rfl d_M_many_30 <|
  J_goto (tgt := 4) d_M_many_33 (by decide) <|
  (((((h).2 c4)).2).1 c3)) (fun c3 =>
  J_iconst (v := (1 : Int32)) d_M_many_23 (by decide) <|
  J_goto (tgt := 28) d_M_many_24 (by decide) <|
  J_iadd d_M_many_28 <|
  J_istore_n (i := 2) (ls' := [some (.inr (25, 0)), some (.inl x1), some (.inl (x2 + (1 : Int32))), some (.inl x3)]) rfl rfl rfl rfl d_M_many_29 <|
  J_iinc (i := 3) (v := (x3 + 1)) (ls' := [some (.inr (25, 0)), some (.inl x1), some (.inl (x2 + (1 : Int32))), some (.inl (x3 + 1))]) rfl rfl rfl rfl rfl d_M_many_30 <|
  J_goto (tgt := 4) d_M_many_33 (by decide) <|
  (((((h).2 c4)).2).2 c3)))
theorem r_M_canHave_0 {Q : Option mV → mS → Prop} {σ : mS} {x1 x2 : Int32} (h : (x1 < (0 : Int32) → (Q (some (.inl (0 : Int32))) σ)) ∧ (¬ x1 < (0 : Int32) → (vp_in x1 30 ∧ (MU M_M_hasField [.inr (25, 0), .inl (σ 50 x1.toNatClampNeg), .inl x2] σ (fun r s1 => ∃ r3, r = some (.inl r3) ∧ ((r3 = (0 : Int32) → (Q (some (.inl (0 : Int32))) s1)) ∧ (¬ r3 = (0 : Int32) → (Q (some (.inl (1 : Int32))) s1)))))))) : J M_M_canHave Q 0 [some (.inr (25, 0)), some (.inl x1), some (.inl x2)] [] σ :=
  J_iload_n (i := 1) rfl rfl d_M_canHave_0 <|
  J_if_lt (tgt := 22) d_M_canHave_1 (by decide) (fun c5 =>
  J_iconst (v := (0 : Int32)) d_M_canHave_22 (by decide) <|
  J_zret rfl (Or.inl rfl) d_M_canHave_23 (((h).1 c5))) (fun c5 =>
  J_aload_n (i := 0) rfl rfl d_M_canHave_4 <|
  J_aload_n (i := 0) rfl rfl d_M_canHave_5 <|
  gM_82 rfl d_M_canHave_6 <|
  J_iload_n (i := 1) rfl rfl d_M_canHave_9 <|
  J_iald (((h).2 c5)).1 d_M_canHave_10 <|
  J_iload_n (i := 2) rfl rfl d_M_canHave_11 <|
  kM_177_i rfl rfl rfl (args := [.inl (σ 50 x1.toNatClampNeg), .inl x2]) ((((h).2 c5)).2) d_M_canHave_12 (fun r3 s1 h2 =>
  J_if_eq (tgt := 22) d_M_canHave_15 (by decide) (fun c4 =>
  J_iconst (v := (0 : Int32)) d_M_canHave_22 (by decide) <|
  J_zret rfl (Or.inl rfl) d_M_canHave_23 (((h2).1 c4))) (fun c4 =>
  J_iconst (v := (1 : Int32)) d_M_canHave_18 (by decide) <|
  J_goto (tgt := 23) d_M_canHave_19 (by decide) <|
  J_zret rfl (Or.inr rfl) d_M_canHave_23 (((h2).2 c4)))))
theorem r_M_make_0 {Q : Option mV → mS → Prop} {σ : mS} {x1 x2 : Int32} (h : (¬ (σ 25 32) = (nI 30) → (vp_in x1 60 ∧ (vp_in (σ 25 32) 30 ∧ (∀ t1, t1 = (m_up σ 50 (σ 25 32).toNatClampNeg (σ 37 x1.toNatClampNeg)) → (vp_in (t1 25 32) 30 ∧ (J M_M_make Q 37 [some (.inr (25, 0)), some (.inl x1), some (.inl x2), some (.inl (0 : Int32))] [] (m_up t1 52 (t1 25 32).toNatClampNeg (-1 : Int32)))))))) ∧ ((σ 25 32) = (nI 30) → (Q none σ))) : J M_M_make Q 0 [some (.inr (25, 0)), some (.inl x1), some (.inl x2), none] [] σ :=
  J_aload_n (i := 0) rfl rfl d_M_make_0 <|
  gM_219 rfl d_M_make_1 <|
  J_bipush (v := (nI 30)) d_M_make_4 (by decide) <|
  J_icmp_ne (tgt := 10) d_M_make_6 (by decide) (fun c3 =>
  J_aload_n (i := 0) rfl rfl d_M_make_10 <|
  gM_82 rfl d_M_make_11 <|
  J_aload_n (i := 0) rfl rfl d_M_make_14 <|
  gM_219 rfl d_M_make_15 <|
  J_aload_n (i := 0) rfl rfl d_M_make_18 <|
  gM_43 rfl d_M_make_19 <|
  J_iload_n (i := 1) rfl rfl d_M_make_22 <|
  J_iald (((h).1 c3)).1 d_M_make_23 <|
  J_iast ((((h).1 c3)).2).1 d_M_make_24 <|
  J_names (fun t1 et1 =>
  J_aload_n (i := 0) rfl rfl d_M_make_25 <|
  gM_88 rfl d_M_make_26 <|
  J_aload_n (i := 0) rfl rfl d_M_make_29 <|
  gM_219 rfl d_M_make_30 <|
  J_iconst (v := (-1 : Int32)) d_M_make_33 (by decide) <|
  J_iast (((((((h).1 c3)).2).2) t1 et1)).1 d_M_make_34 <|
  J_iconst (v := (0 : Int32)) d_M_make_35 (by decide) <|
  J_istore_n (i := 3) (ls' := [some (.inr (25, 0)), some (.inl x1), some (.inl x2), some (.inl (0 : Int32))]) rfl rfl rfl rfl d_M_make_36 <|
  (((((((h).1 c3)).2).2) t1 et1)).2)) (fun c3 =>
  J_vret rfl d_M_make_9 (((h).2 c3)))
theorem r_M_make_37 {Q : Option mV → mS → Prop} {σ : mS} {x2 x3 : Int32} {u1 : Option mV} (h : ((nI 8) ≤ x3 → (vp_in x2 60 ∧ (∀ t4, t4 = (m_up σ 57 x2.toNatClampNeg (σ 25 32)) → (Q none (m_up t4 25 32 ((t4 25 32) + (1 : Int32))))))) ∧ (¬ (nI 8) ≤ x3 → (vp_in (((nI 8) * (σ 25 32)) + x3) 240 ∧ (J M_M_make Q 37 [some (.inr (25, 0)), u1, some (.inl x2), some (.inl (x3 + 1))] [] (m_up σ 51 (((nI 8) * (σ 25 32)) + x3).toNatClampNeg (-1 : Int32)))))) : J M_M_make Q 37 [some (.inr (25, 0)), u1, some (.inl x2), some (.inl x3)] [] σ :=
  J_iload_n (i := 3) rfl rfl d_M_make_37 <|
  J_bipush (v := (nI 8)) d_M_make_38 (by decide) <|
  J_icmp_ge (tgt := 64) d_M_make_40 (by decide) (fun c7 =>
  J_aload_n (i := 0) rfl rfl d_M_make_64 <|
  gM_103 rfl d_M_make_65 <|
  J_iload_n (i := 2) rfl rfl d_M_make_68 <|
  J_aload_n (i := 0) rfl rfl d_M_make_69 <|
  gM_219 rfl d_M_make_70 <|
  J_iast (((h).1 c7)).1 d_M_make_73 <|
  J_names (fun t4 et4 =>
  J_aload_n (i := 0) rfl rfl d_M_make_74 <|
  J_dup d_M_make_75 <|
  gM_219 rfl d_M_make_76 <|
  J_iconst (v := (1 : Int32)) d_M_make_79 (by decide) <|
  J_iadd d_M_make_80 <|
  pM_219 rfl d_M_make_81 <|
  J_vret rfl d_M_make_84 ((((((h).1 c7)).2) t4 et4)))) (fun c7 =>
  J_aload_n (i := 0) rfl rfl d_M_make_43 <|
  gM_85 rfl d_M_make_44 <|
  J_bipush (v := (nI 8)) d_M_make_47 (by decide) <|
  J_aload_n (i := 0) rfl rfl d_M_make_49 <|
  gM_219 rfl d_M_make_50 <|
  J_imul d_M_make_53 <|
  J_iload_n (i := 3) rfl rfl d_M_make_54 <|
  J_iadd d_M_make_55 <|
  J_iconst (v := (-1 : Int32)) d_M_make_56 (by decide) <|
  J_iast (((h).2 c7)).1 d_M_make_57 <|
  J_iinc (i := 3) (v := (x3 + 1)) (ls' := [some (.inr (25, 0)), u1, some (.inl x2), some (.inl (x3 + 1))]) rfl rfl rfl rfl rfl d_M_make_58 <|
  J_goto (tgt := 37) d_M_make_61 (by decide) <|
  (((h).2 c7)).2)
theorem r_M_enter_0 {Q : Option mV → mS → Prop} {σ : mS} {x1 x2 x3 : Int32} (h : ((0 : Int32) ≤ x3 → (vp_in x3 30 ∧ (vp_in (σ 50 x3.toNatClampNeg) 20 ∧ (vp_in x1 60 ∧ (MU M_M_found [.inr (25, 0), .inl (σ 38 (σ 50 x3.toNatClampNeg).toNatClampNeg), .inl (σ 34 x1.toNatClampNeg)] σ (fun r s1 => ∃ r3, r = some (.inl r3) ∧ (J M_M_enter Q 29 [some (.inr (25, 0)), some (.inl x1), some (.inl x2), some (.inl x3), none, none, none] [.inl r3] s1))))))) ∧ (¬ (0 : Int32) ≤ x3 → (J M_M_enter Q 29 [some (.inr (25, 0)), some (.inl x1), some (.inl x2), some (.inl x3), none, none, none] [.inl (-1 : Int32)] σ))) : J M_M_enter Q 0 [some (.inr (25, 0)), some (.inl x1), some (.inl x2), some (.inl x3), none, none, none] [] σ :=
  J_iload_n (i := 3) rfl rfl d_M_enter_0 <|
  J_if_ge (tgt := 8) d_M_enter_1 (by decide) (fun c4 =>
  J_aload_n (i := 0) rfl rfl d_M_enter_8 <|
  J_aload_n (i := 0) rfl rfl d_M_enter_9 <|
  gM_46 rfl d_M_enter_10 <|
  J_aload_n (i := 0) rfl rfl d_M_enter_13 <|
  gM_82 rfl d_M_enter_14 <|
  J_iload_n (i := 3) rfl rfl d_M_enter_17 <|
  J_iald (((h).1 c4)).1 d_M_enter_18 <|
  J_iald ((((h).1 c4)).2).1 d_M_enter_19 <|
  J_aload_n (i := 0) rfl rfl d_M_enter_20 <|
  gM_34 rfl d_M_enter_21 <|
  J_iload_n (i := 1) rfl rfl d_M_enter_24 <|
  J_iald (((((h).1 c4)).2).2).1 d_M_enter_25 <|
  kM_180_i rfl rfl rfl (args := [.inl (σ 38 (σ 50 x3.toNatClampNeg).toNatClampNeg), .inl (σ 34 x1.toNatClampNeg)]) ((((((h).1 c4)).2).2).2) d_M_enter_26 (fun r3 s1 h2 =>
  h2)) (fun c4 =>
  J_iconst (v := (-1 : Int32)) d_M_enter_4 (by decide) <|
  J_goto (tgt := 29) d_M_enter_5 (by decide) <|
  ((h).2 c4))
theorem r_M_enter_29 {Q : Option mV → mS → Prop} {σ : mS} {x1 x2 x3 y0 : Int32} {u4 u5 u6 : Option mV} (h : (y0 < (0 : Int32) → (Q none σ)) ∧ (¬ y0 < (0 : Int32) → ((¬ (σ 25 37) = (nI 10) → (vp_in x1 60 ∧ (vp_in (x2 + (σ 35 x1.toNatClampNeg)) 60 ∧ (∀ v5, v5 = (σ 57 (x2 + (σ 35 x1.toNatClampNeg)).toNatClampNeg) → (vp_in x1 60 ∧ (vp_in (x2 + (σ 36 x1.toNatClampNeg)) 60 ∧ (∀ v6, v6 = (σ 57 (x2 + (σ 36 x1.toNatClampNeg)).toNatClampNeg) → ((¬ (σ 25 18) = (0 : Int32) → (vp_in x3 30 ∧ (J M_M_enter Q 98 [some (.inr (25, 0)), some (.inl x1), some (.inl x2), some (.inl x3), some (.inl y0), some (.inl v5), some (.inl v6)] [.inl ((1 : Int32) + (σ 50 x3.toNatClampNeg)), .inl y0, .inr (25, 0)] σ))) ∧ ((σ 25 18) = (0 : Int32) → (J M_M_enter Q 98 [some (.inr (25, 0)), some (.inl x1), some (.inl x2), some (.inl x3), some (.inl y0), some (.inl v5), some (.inl v6)] [.inl (0 : Int32), .inl y0, .inr (25, 0)] σ)))))))))) ∧ ((σ 25 37) = (nI 10) → (Q none σ))))) : J M_M_enter Q 29 [some (.inr (25, 0)), some (.inl x1), some (.inl x2), some (.inl x3), u4, u5, u6] [.inl y0] σ :=
  J_istore (i := 4) (ls' := [some (.inr (25, 0)), some (.inl x1), some (.inl x2), some (.inl x3), some (.inl y0), u5, u6]) rfl rfl rfl d_M_enter_29 <|
  J_iload (i := 4) rfl d_M_enter_31 <|
  J_if_lt (tgt := 45) d_M_enter_33 (by decide) (fun c9 =>
  J_vret rfl d_M_enter_45 (((h).1 c9))) (fun c9 =>
  J_aload_n (i := 0) rfl rfl d_M_enter_36 <|
  gM_222 rfl d_M_enter_37 <|
  J_bipush (v := (nI 10)) d_M_enter_40 (by decide) <|
  J_icmp_ne (tgt := 46) d_M_enter_42 (by decide) (fun c8 =>
  J_aload_n (i := 0) rfl rfl d_M_enter_46 <|
  gM_103 rfl d_M_enter_47 <|
  J_iload_n (i := 2) rfl rfl d_M_enter_50 <|
  J_aload_n (i := 0) rfl rfl d_M_enter_51 <|
  gM_37 rfl d_M_enter_52 <|
  J_iload_n (i := 1) rfl rfl d_M_enter_55 <|
  J_iald (((((h).2 c9)).1 c8)).1 d_M_enter_56 <|
  J_iadd d_M_enter_57 <|
  J_iald ((((((h).2 c9)).1 c8)).2).1 d_M_enter_58 <|
  J_namei (fun v5 ev5 =>
  J_istore (i := 5) (ls' := [some (.inr (25, 0)), some (.inl x1), some (.inl x2), some (.inl x3), some (.inl y0), some (.inl v5), u6]) rfl rfl rfl d_M_enter_59 <|
  J_aload_n (i := 0) rfl rfl d_M_enter_61 <|
  gM_103 rfl d_M_enter_62 <|
  J_iload_n (i := 2) rfl rfl d_M_enter_65 <|
  J_aload_n (i := 0) rfl rfl d_M_enter_66 <|
  gM_40 rfl d_M_enter_67 <|
  J_iload_n (i := 1) rfl rfl d_M_enter_70 <|
  J_iald (((((((((h).2 c9)).1 c8)).2).2) v5 ev5)).1 d_M_enter_71 <|
  J_iadd d_M_enter_72 <|
  J_iald ((((((((((h).2 c9)).1 c8)).2).2) v5 ev5)).2).1 d_M_enter_73 <|
  J_namei (fun v6 ev6 =>
  J_istore (i := 6) (ls' := [some (.inr (25, 0)), some (.inl x1), some (.inl x2), some (.inl x3), some (.inl y0), some (.inl v5), some (.inl v6)]) rfl rfl rfl d_M_enter_74 <|
  J_aload_n (i := 0) rfl rfl d_M_enter_76 <|
  J_iload (i := 4) rfl d_M_enter_77 <|
  J_aload_n (i := 0) rfl rfl d_M_enter_79 <|
  gM_163 rfl d_M_enter_80 <|
  J_if_ne (tgt := 90) d_M_enter_83 (by decide) (fun c7 =>
  J_iconst (v := (1 : Int32)) d_M_enter_90 (by decide) <|
  J_aload_n (i := 0) rfl rfl d_M_enter_91 <|
  gM_82 rfl d_M_enter_92 <|
  J_iload_n (i := 3) rfl rfl d_M_enter_95 <|
  J_iald (((((((((((((((h).2 c9)).1 c8)).2).2) v5 ev5)).2).2) v6 ev6)).1 c7)).1 d_M_enter_96 <|
  J_iadd d_M_enter_97 <|
  (((((((((((((((h).2 c9)).1 c8)).2).2) v5 ev5)).2).2) v6 ev6)).1 c7)).2) (fun c7 =>
  J_iconst (v := (0 : Int32)) d_M_enter_86 (by decide) <|
  J_goto (tgt := 98) d_M_enter_87 (by decide) <|
  ((((((((((((((h).2 c9)).1 c8)).2).2) v5 ev5)).2).2) v6 ev6)).2 c7))))) (fun c8 =>
  J_vret rfl d_M_enter_45 (((((h).2 c9)).2 c8))))
theorem r_M_enter_98 {Q : Option mV → mS → Prop} {σ : mS} {x1 x2 x3 x5 x6 y1 y2 : Int32} {u4 : Option mV} (h : vp_in x1 60 ∧ (MU M_M_open [.inr (25, 0), .inl y1, .inl y2, .inl (σ 32 x1.toNatClampNeg)] σ (fun r s10 => r = none ∧ (vp_in (x2 + (nI 6)) 60 ∧ (vp_in (x2 + (nI 7)) 60 ∧ (vp_in (x2 + (nI 8)) 60 ∧ (∀ t14, t14 = (m_up (m_up (m_up s10 57 (x2 + (nI 6)).toNatClampNeg x3) 57 (x2 + (nI 7)).toNatClampNeg x5) 57 (x2 + (nI 8)).toNatClampNeg x6) → (Q none (m_up t14 25 43 ((t14 25 43) + (1 : Int32))))))))))) : J M_M_enter Q 98 [some (.inr (25, 0)), some (.inl x1), some (.inl x2), some (.inl x3), u4, some (.inl x5), some (.inl x6)] [.inl y2, .inl y1, .inr (25, 0)] σ :=
  J_aload_n (i := 0) rfl rfl d_M_enter_98 <|
  gM_28 rfl d_M_enter_99 <|
  J_iload_n (i := 1) rfl rfl d_M_enter_102 <|
  J_iald (h).1 d_M_enter_103 <|
  kM_228_v rfl rfl rfl (args := [.inl y1, .inl y2, .inl (σ 32 x1.toNatClampNeg)]) ((h).2) d_M_enter_104 (fun s10 h11 =>
  J_aload_n (i := 0) rfl rfl d_M_enter_107 <|
  gM_103 rfl d_M_enter_108 <|
  J_iload_n (i := 2) rfl rfl d_M_enter_111 <|
  J_bipush (v := (nI 6)) d_M_enter_112 (by decide) <|
  J_iadd d_M_enter_114 <|
  J_iload_n (i := 3) rfl rfl d_M_enter_115 <|
  J_iast (h11).1 d_M_enter_116 <|
  J_aload_n (i := 0) rfl rfl d_M_enter_117 <|
  gM_103 rfl d_M_enter_118 <|
  J_iload_n (i := 2) rfl rfl d_M_enter_121 <|
  J_bipush (v := (nI 7)) d_M_enter_122 (by decide) <|
  J_iadd d_M_enter_124 <|
  J_iload (i := 5) rfl d_M_enter_125 <|
  J_iast ((h11).2).1 d_M_enter_127 <|
  J_aload_n (i := 0) rfl rfl d_M_enter_128 <|
  gM_103 rfl d_M_enter_129 <|
  J_iload_n (i := 2) rfl rfl d_M_enter_132 <|
  J_bipush (v := (nI 8)) d_M_enter_133 (by decide) <|
  J_iadd d_M_enter_135 <|
  J_iload (i := 6) rfl d_M_enter_136 <|
  J_iast (((h11).2).2).1 d_M_enter_138 <|
  J_names (fun t14 et14 =>
  J_aload_n (i := 0) rfl rfl d_M_enter_139 <|
  J_dup d_M_enter_140 <|
  gM_225 rfl d_M_enter_141 <|
  J_iconst (v := (1 : Int32)) d_M_enter_144 (by decide) <|
  J_iadd d_M_enter_145 <|
  pM_225 rfl d_M_enter_146 <|
  J_vret rfl d_M_enter_149 ((((((h11).2).2).2) t14 et14))))
theorem r_M_act_0 {Q : Option mV → mS → Prop} {σ : mS} {x1 : Int32} (h : ∀ v1, v1 = ((nI 6) * ((σ 25 37) - (1 : Int32))) → (vp_in x1 60 ∧ (∀ v2, v2 = (v1 + (σ 32 x1.toNatClampNeg)) → (vp_in x1 60 ∧ ((¬ (σ 31 x1.toNatClampNeg) = (nI 6) → (vp_in v2 60 ∧ (J M_M_act Q 40 [some (.inr (25, 0)), some (.inl x1), some (.inl v1), some (.inl v2), none, none] [.inl (σ 57 v2.toNatClampNeg)] σ))) ∧ ((σ 31 x1.toNatClampNeg) = (nI 6) → (J M_M_act Q 40 [some (.inr (25, 0)), some (.inl x1), some (.inl v1), some (.inl v2), none, none] [.inl (-1 : Int32)] σ))))))) : J M_M_act Q 0 [some (.inr (25, 0)), some (.inl x1), none, none, none, none] [] σ :=
  J_bipush (v := (nI 6)) d_M_act_0 (by decide) <|
  J_aload_n (i := 0) rfl rfl d_M_act_2 <|
  gM_222 rfl d_M_act_3 <|
  J_iconst (v := (1 : Int32)) d_M_act_6 (by decide) <|
  J_isub d_M_act_7 <|
  J_imul d_M_act_8 <|
  J_namei (fun v1 ev1 =>
  J_istore_n (i := 2) (ls' := [some (.inr (25, 0)), some (.inl x1), some (.inl v1), none, none, none]) rfl rfl rfl rfl d_M_act_9 <|
  J_iload_n (i := 2) rfl rfl d_M_act_10 <|
  J_aload_n (i := 0) rfl rfl d_M_act_11 <|
  gM_28 rfl d_M_act_12 <|
  J_iload_n (i := 1) rfl rfl d_M_act_15 <|
  J_iald (((h) v1 ev1)).1 d_M_act_16 <|
  J_iadd d_M_act_17 <|
  J_namei (fun v2 ev2 =>
  J_istore_n (i := 3) (ls' := [some (.inr (25, 0)), some (.inl x1), some (.inl v1), some (.inl v2), none, none]) rfl rfl rfl rfl d_M_act_18 <|
  J_aload_n (i := 0) rfl rfl d_M_act_19 <|
  gM_25 rfl d_M_act_20 <|
  J_iload_n (i := 1) rfl rfl d_M_act_23 <|
  J_iald ((((((h) v1 ev1)).2) v2 ev2)).1 d_M_act_24 <|
  J_bipush (v := (nI 6)) d_M_act_25 (by decide) <|
  J_icmp_ne (tgt := 34) d_M_act_27 (by decide) (fun c3 =>
  J_aload_n (i := 0) rfl rfl d_M_act_34 <|
  gM_103 rfl d_M_act_35 <|
  J_iload_n (i := 3) rfl rfl d_M_act_38 <|
  J_iald (((((((((h) v1 ev1)).2) v2 ev2)).2).1 c3)).1 d_M_act_39 <|
  (((((((((h) v1 ev1)).2) v2 ev2)).2).1 c3)).2) (fun c3 =>
  J_iconst (v := (-1 : Int32)) d_M_act_30 (by decide) <|
  J_goto (tgt := 40) d_M_act_31 (by decide) <|
  ((((((((h) v1 ev1)).2) v2 ev2)).2).2 c3))))
theorem r_M_act_40 {Q : Option mV → mS → Prop} {σ : mS} {x1 x2 x3 y0 : Int32} {u4 u5 : Option mV} (h : vp_in x1 60 ∧ (((σ 31 x1.toNatClampNeg) = (0 : Int32) → (J M_M_act Q 78 [some (.inr (25, 0)), some (.inl x1), some (.inl x2), some (.inl x3), some (.inl y0), u5] [.inl (-1 : Int32)] σ)) ∧ (¬ (σ 31 x1.toNatClampNeg) = (0 : Int32) → (vp_in x1 60 ∧ ((¬ (σ 31 x1.toNatClampNeg) = (nI 5) → (vp_in x1 60 ∧ (vp_in (x2 + (σ 33 x1.toNatClampNeg)) 60 ∧ (J M_M_act Q 78 [some (.inr (25, 0)), some (.inl x1), some (.inl x2), some (.inl x3), some (.inl y0), u5] [.inl (σ 57 (x2 + (σ 33 x1.toNatClampNeg)).toNatClampNeg)] σ)))) ∧ ((σ 31 x1.toNatClampNeg) = (nI 5) → (J M_M_act Q 78 [some (.inr (25, 0)), some (.inl x1), some (.inl x2), some (.inl x3), some (.inl y0), u5] [.inl (-1 : Int32)] σ))))))) : J M_M_act Q 40 [some (.inr (25, 0)), some (.inl x1), some (.inl x2), some (.inl x3), u4, u5] [.inl y0] σ :=
  J_istore (i := 4) (ls' := [some (.inr (25, 0)), some (.inl x1), some (.inl x2), some (.inl x3), some (.inl y0), u5]) rfl rfl rfl d_M_act_40 <|
  J_aload_n (i := 0) rfl rfl d_M_act_42 <|
  gM_25 rfl d_M_act_43 <|
  J_iload_n (i := 1) rfl rfl d_M_act_46 <|
  J_iald (h).1 d_M_act_47 <|
  J_if_eq (tgt := 61) d_M_act_48 (by decide) (fun c5 =>
  J_iconst (v := (-1 : Int32)) d_M_act_61 (by decide) <|
  J_goto (tgt := 78) d_M_act_62 (by decide) <|
  (((h).2).1 c5)) (fun c5 =>
  J_aload_n (i := 0) rfl rfl d_M_act_51 <|
  gM_25 rfl d_M_act_52 <|
  J_iload_n (i := 1) rfl rfl d_M_act_55 <|
  J_iald ((((h).2).2 c5)).1 d_M_act_56 <|
  J_iconst (v := (nI 5)) d_M_act_57 (by decide) <|
  J_icmp_ne (tgt := 65) d_M_act_58 (by decide) (fun c4 =>
  J_aload_n (i := 0) rfl rfl d_M_act_65 <|
  gM_103 rfl d_M_act_66 <|
  J_iload_n (i := 2) rfl rfl d_M_act_69 <|
  J_aload_n (i := 0) rfl rfl d_M_act_70 <|
  gM_31 rfl d_M_act_71 <|
  J_iload_n (i := 1) rfl rfl d_M_act_74 <|
  J_iald (((((((h).2).2 c5)).2).1 c4)).1 d_M_act_75 <|
  J_iadd d_M_act_76 <|
  J_iald ((((((((h).2).2 c5)).2).1 c4)).2).1 d_M_act_77 <|
  ((((((((h).2).2 c5)).2).1 c4)).2).2) (fun c4 =>
  J_iconst (v := (-1 : Int32)) d_M_act_61 (by decide) <|
  J_goto (tgt := 78) d_M_act_62 (by decide) <|
  ((((((h).2).2 c5)).2).2 c4)))
theorem r_M_act_78 {Q : Option mV → mS → Prop} {σ : mS} {x1 x2 x3 x4 y0 : Int32} {u5 : Option mV} (h : vp_in x1 60 ∧ (((σ 31 x1.toNatClampNeg) = (0 : Int32) → (MU M_M_make [.inr (25, 0), .inl x1, .inl x3] σ (fun r s6 => r = none ∧ (Q none s6)))) ∧ ((σ 31 x1.toNatClampNeg) = (1 : Int32) → (vp_in x3 60 ∧ (Q none (m_up σ 57 x3.toNatClampNeg y0)))) ∧ ((σ 31 x1.toNatClampNeg) = (nI 2) → (vp_in x1 60 ∧ (MU M_M_canHave [.inr (25, 0), .inl y0, .inl (σ 34 x1.toNatClampNeg)] σ (fun r s9 => ∃ r11, r = some (.inl r11) ∧ ((r11 = (0 : Int32) → (vp_in x3 60 ∧ (Q none (m_up s9 57 x3.toNatClampNeg x4)))) ∧ (¬ r11 = (0 : Int32) → (vp_in x1 60 ∧ (vp_in (((nI 8) * y0) + (s9 34 x1.toNatClampNeg)) 240 ∧ (vp_in x3 60 ∧ (Q none (m_up s9 57 x3.toNatClampNeg (s9 51 (((nI 8) * y0) + (s9 34 x1.toNatClampNeg)).toNatClampNeg)))))))))))) ∧ ((σ 31 x1.toNatClampNeg) = (nI 3) → (vp_in x1 60 ∧ (MU M_M_canHave [.inr (25, 0), .inl x4, .inl (σ 34 x1.toNatClampNeg)] σ (fun r s15 => ∃ r17, r = some (.inl r17) ∧ ((r17 = (0 : Int32) → (Q none s15)) ∧ (¬ r17 = (0 : Int32) → (vp_in x1 60 ∧ (vp_in (((nI 8) * x4) + (s15 34 x1.toNatClampNeg)) 240 ∧ (Q none (m_up s15 51 (((nI 8) * x4) + (s15 34 x1.toNatClampNeg)).toNatClampNeg y0)))))))))) ∧ ((σ 31 x1.toNatClampNeg) = (nI 4) → ((y0 < (0 : Int32) → (vp_in x3 60 ∧ (Q none (m_up σ 57 x3.toNatClampNeg y0)))) ∧ (¬ y0 < (0 : Int32) → (vp_in y0 30 ∧ (vp_in (σ 50 y0.toNatClampNeg) 20 ∧ (vp_in x1 60 ∧ (MU M_M_isUnder [.inr (25, 0), .inl (σ 38 (σ 50 y0.toNatClampNeg).toNatClampNeg), .inl (σ 34 x1.toNatClampNeg)] σ (fun r s21 => ∃ r23, r = some (.inl r23) ∧ ((r23 = (0 : Int32) → (vp_in x3 60 ∧ (Q none (m_up s21 57 x3.toNatClampNeg x4)))) ∧ (¬ r23 = (0 : Int32) → (vp_in x3 60 ∧ (Q none (m_up s21 57 x3.toNatClampNeg y0))))))))))))) ∧ ((σ 31 x1.toNatClampNeg) = (nI 5) → (vp_in x1 60 ∧ (vp_in (σ 33 x1.toNatClampNeg) 4 ∧ (vp_in x3 60 ∧ (Q none (m_up σ 57 x3.toNatClampNeg (σ 53 (σ 33 x1.toNatClampNeg).toNatClampNeg))))))) ∧ ((σ 31 x1.toNatClampNeg) = (nI 6) → (vp_in x1 60 ∧ (vp_in (σ 32 x1.toNatClampNeg) 4 ∧ (Q none (m_up σ 53 (σ 32 x1.toNatClampNeg).toNatClampNeg y0))))) ∧ ((σ 31 x1.toNatClampNeg) = (nI 7) → (MU M_M_enter [.inr (25, 0), .inl x1, .inl x2, .inl y0] σ (fun r s30 => r = none ∧ (Q none s30)))) ∧ ((σ 31 x1.toNatClampNeg) = (nI 8) → ((y0 < (0 : Int32) → (vp_in x3 60 ∧ (Q none (m_up σ 57 x3.toNatClampNeg x4)))) ∧ (¬ y0 < (0 : Int32) → (vp_in y0 30 ∧ (vp_in x3 60 ∧ (Q none (m_up σ 57 x3.toNatClampNeg (σ 52 y0.toNatClampNeg)))))))) ∧ (¬ (σ 31 x1.toNatClampNeg) = (0 : Int32) → ¬ (σ 31 x1.toNatClampNeg) = (1 : Int32) → ¬ (σ 31 x1.toNatClampNeg) = (nI 2) → ¬ (σ 31 x1.toNatClampNeg) = (nI 3) → ¬ (σ 31 x1.toNatClampNeg) = (nI 4) → ¬ (σ 31 x1.toNatClampNeg) = (nI 5) → ¬ (σ 31 x1.toNatClampNeg) = (nI 6) → ¬ (σ 31 x1.toNatClampNeg) = (nI 7) → ¬ (σ 31 x1.toNatClampNeg) = (nI 8) → ((x4 < (0 : Int32) → (Q none σ)) ∧ (¬ x4 < (0 : Int32) → (vp_in x4 30 ∧ (Q none (m_up σ 52 x4.toNatClampNeg y0)))))))) : J M_M_act Q 78 [some (.inr (25, 0)), some (.inl x1), some (.inl x2), some (.inl x3), some (.inl x4), u5] [.inl y0] σ :=
  J_istore (i := 5) (ls' := [some (.inr (25, 0)), some (.inl x1), some (.inl x2), some (.inl x3), some (.inl x4), some (.inl y0)]) rfl rfl rfl d_M_act_78 <|
  J_aload_n (i := 0) rfl rfl d_M_act_80 <|
  gM_25 rfl d_M_act_81 <|
  J_iload_n (i := 1) rfl rfl d_M_act_84 <|
  J_iald (h).1 d_M_act_85 <|
  Classical.byCases (p := (σ 31 x1.toNatClampNeg) = (0 : Int32)) (fun c37 => J_tabIn (tgt := 136) c37 d_M_act_86 (by decide) (by decide) rfl (by decide) <|
  J_aload_n (i := 0) rfl rfl d_M_act_136 <|
  J_iload_n (i := 1) rfl rfl d_M_act_137 <|
  J_iload_n (i := 3) rfl rfl d_M_act_138 <|
  kM_232_v rfl rfl rfl (args := [.inl x1, .inl x3]) ((((h).2).1 c37)) d_M_act_139 (fun s6 h7 =>
  J_goto (tgt := 372) d_M_act_142 (by decide) <|
  J_vret rfl d_M_act_372 (h7))) <| fun c37_0 =>
  Classical.byCases (p := (σ 31 x1.toNatClampNeg) = (1 : Int32)) (fun c37 => J_tabIn (tgt := 145) c37 d_M_act_86 (by decide) (by decide) rfl (by decide) <|
  J_aload_n (i := 0) rfl rfl d_M_act_145 <|
  gM_103 rfl d_M_act_146 <|
  J_iload_n (i := 3) rfl rfl d_M_act_149 <|
  J_iload (i := 5) rfl d_M_act_150 <|
  J_iast (((((h).2).2).1 c37)).1 d_M_act_152 <|
  J_goto (tgt := 372) d_M_act_153 (by decide) <|
  J_vret rfl d_M_act_372 ((((((h).2).2).1 c37)).2)) <| fun c37_1 =>
  Classical.byCases (p := (σ 31 x1.toNatClampNeg) = (nI 2)) (fun c37 => J_tabIn (tgt := 156) c37 d_M_act_86 (by decide) (by decide) rfl (by decide) <|
  J_aload_n (i := 0) rfl rfl d_M_act_156 <|
  gM_103 rfl d_M_act_157 <|
  J_iload_n (i := 3) rfl rfl d_M_act_160 <|
  J_aload_n (i := 0) rfl rfl d_M_act_161 <|
  J_iload (i := 5) rfl d_M_act_162 <|
  J_aload_n (i := 0) rfl rfl d_M_act_164 <|
  gM_34 rfl d_M_act_165 <|
  J_iload_n (i := 1) rfl rfl d_M_act_168 <|
  J_iald ((((((h).2).2).2).1 c37)).1 d_M_act_169 <|
  kM_235_i rfl rfl rfl (args := [.inl y0, .inl (σ 34 x1.toNatClampNeg)]) (((((((h).2).2).2).1 c37)).2) d_M_act_170 (fun r11 s9 h10 =>
  J_if_eq (tgt := 196) d_M_act_173 (by decide) (fun c14 =>
  J_iload (i := 4) rfl d_M_act_196 <|
  J_iast (((h10).1 c14)).1 d_M_act_198 <|
  J_goto (tgt := 372) d_M_act_199 (by decide) <|
  J_vret rfl d_M_act_372 ((((h10).1 c14)).2)) (fun c14 =>
  J_aload_n (i := 0) rfl rfl d_M_act_176 <|
  gM_85 rfl d_M_act_177 <|
  J_bipush (v := (nI 8)) d_M_act_180 (by decide) <|
  J_iload (i := 5) rfl d_M_act_182 <|
  J_imul d_M_act_184 <|
  J_aload_n (i := 0) rfl rfl d_M_act_185 <|
  gM_34 rfl d_M_act_186 <|
  J_iload_n (i := 1) rfl rfl d_M_act_189 <|
  J_iald (((h10).2 c14)).1 d_M_act_190 <|
  J_iadd d_M_act_191 <|
  J_iald ((((h10).2 c14)).2).1 d_M_act_192 <|
  J_goto (tgt := 198) d_M_act_193 (by decide) <|
  J_iast (((((h10).2 c14)).2).2).1 d_M_act_198 <|
  J_goto (tgt := 372) d_M_act_199 (by decide) <|
  J_vret rfl d_M_act_372 ((((((h10).2 c14)).2).2).2)))) <| fun c37_2 =>
  Classical.byCases (p := (σ 31 x1.toNatClampNeg) = (nI 3)) (fun c37 => J_tabIn (tgt := 202) c37 d_M_act_86 (by decide) (by decide) rfl (by decide) <|
  J_aload_n (i := 0) rfl rfl d_M_act_202 <|
  J_iload (i := 4) rfl d_M_act_203 <|
  J_aload_n (i := 0) rfl rfl d_M_act_205 <|
  gM_34 rfl d_M_act_206 <|
  J_iload_n (i := 1) rfl rfl d_M_act_209 <|
  J_iald (((((((h).2).2).2).2).1 c37)).1 d_M_act_210 <|
  kM_235_i rfl rfl rfl (args := [.inl x4, .inl (σ 34 x1.toNatClampNeg)]) ((((((((h).2).2).2).2).1 c37)).2) d_M_act_211 (fun r17 s15 h16 =>
  J_if_eq (tgt := 372) d_M_act_214 (by decide) (fun c19 =>
  J_vret rfl d_M_act_372 (((h16).1 c19))) (fun c19 =>
  J_aload_n (i := 0) rfl rfl d_M_act_217 <|
  gM_85 rfl d_M_act_218 <|
  J_bipush (v := (nI 8)) d_M_act_221 (by decide) <|
  J_iload (i := 4) rfl d_M_act_223 <|
  J_imul d_M_act_225 <|
  J_aload_n (i := 0) rfl rfl d_M_act_226 <|
  gM_34 rfl d_M_act_227 <|
  J_iload_n (i := 1) rfl rfl d_M_act_230 <|
  J_iald (((h16).2 c19)).1 d_M_act_231 <|
  J_iadd d_M_act_232 <|
  J_iload (i := 5) rfl d_M_act_233 <|
  J_iast ((((h16).2 c19)).2).1 d_M_act_235 <|
  J_goto (tgt := 372) d_M_act_236 (by decide) <|
  J_vret rfl d_M_act_372 (((((h16).2 c19)).2).2)))) <| fun c37_3 =>
  Classical.byCases (p := (σ 31 x1.toNatClampNeg) = (nI 4)) (fun c37 => J_tabIn (tgt := 239) c37 d_M_act_86 (by decide) (by decide) rfl (by decide) <|
  J_aload_n (i := 0) rfl rfl d_M_act_239 <|
  gM_103 rfl d_M_act_240 <|
  J_iload_n (i := 3) rfl rfl d_M_act_243 <|
  J_iload (i := 5) rfl d_M_act_244 <|
  J_if_lt (tgt := 274) d_M_act_246 (by decide) (fun c27 =>
  J_iload (i := 5) rfl d_M_act_274 <|
  J_goto (tgt := 281) d_M_act_276 (by decide) <|
  J_iast ((((((((((h).2).2).2).2).2).1 c37)).1 c27)).1 d_M_act_281 <|
  J_goto (tgt := 372) d_M_act_282 (by decide) <|
  J_vret rfl d_M_act_372 (((((((((((h).2).2).2).2).2).1 c37)).1 c27)).2)) (fun c27 =>
  J_aload_n (i := 0) rfl rfl d_M_act_249 <|
  J_aload_n (i := 0) rfl rfl d_M_act_250 <|
  gM_46 rfl d_M_act_251 <|
  J_aload_n (i := 0) rfl rfl d_M_act_254 <|
  gM_82 rfl d_M_act_255 <|
  J_iload (i := 5) rfl d_M_act_258 <|
  J_iald ((((((((((h).2).2).2).2).2).1 c37)).2 c27)).1 d_M_act_260 <|
  J_iald (((((((((((h).2).2).2).2).2).1 c37)).2 c27)).2).1 d_M_act_261 <|
  J_aload_n (i := 0) rfl rfl d_M_act_262 <|
  gM_34 rfl d_M_act_263 <|
  J_iload_n (i := 1) rfl rfl d_M_act_266 <|
  J_iald ((((((((((((h).2).2).2).2).2).1 c37)).2 c27)).2).2).1 d_M_act_267 <|
  kM_119_i rfl rfl rfl (args := [.inl (σ 38 (σ 50 y0.toNatClampNeg).toNatClampNeg), .inl (σ 34 x1.toNatClampNeg)]) (((((((((((((h).2).2).2).2).2).1 c37)).2 c27)).2).2).2) d_M_act_268 (fun r23 s21 h22 =>
  J_if_eq (tgt := 279) d_M_act_271 (by decide) (fun c26 =>
  J_iload (i := 4) rfl d_M_act_279 <|
  J_iast (((h22).1 c26)).1 d_M_act_281 <|
  J_goto (tgt := 372) d_M_act_282 (by decide) <|
  J_vret rfl d_M_act_372 ((((h22).1 c26)).2)) (fun c26 =>
  J_iload (i := 5) rfl d_M_act_274 <|
  J_goto (tgt := 281) d_M_act_276 (by decide) <|
  J_iast (((h22).2 c26)).1 d_M_act_281 <|
  J_goto (tgt := 372) d_M_act_282 (by decide) <|
  J_vret rfl d_M_act_372 ((((h22).2 c26)).2))))) <| fun c37_4 =>
  Classical.byCases (p := (σ 31 x1.toNatClampNeg) = (nI 5)) (fun c37 => J_tabIn (tgt := 285) c37 d_M_act_86 (by decide) (by decide) rfl (by decide) <|
  J_aload_n (i := 0) rfl rfl d_M_act_285 <|
  gM_103 rfl d_M_act_286 <|
  J_iload_n (i := 3) rfl rfl d_M_act_289 <|
  J_aload_n (i := 0) rfl rfl d_M_act_290 <|
  gM_91 rfl d_M_act_291 <|
  J_aload_n (i := 0) rfl rfl d_M_act_294 <|
  gM_31 rfl d_M_act_295 <|
  J_iload_n (i := 1) rfl rfl d_M_act_298 <|
  J_iald (((((((((h).2).2).2).2).2).2).1 c37)).1 d_M_act_299 <|
  J_iald ((((((((((h).2).2).2).2).2).2).1 c37)).2).1 d_M_act_300 <|
  J_iast (((((((((((h).2).2).2).2).2).2).1 c37)).2).2).1 d_M_act_301 <|
  J_goto (tgt := 372) d_M_act_302 (by decide) <|
  J_vret rfl d_M_act_372 ((((((((((((h).2).2).2).2).2).2).1 c37)).2).2).2)) <| fun c37_5 =>
  Classical.byCases (p := (σ 31 x1.toNatClampNeg) = (nI 6)) (fun c37 => J_tabIn (tgt := 305) c37 d_M_act_86 (by decide) (by decide) rfl (by decide) <|
  J_aload_n (i := 0) rfl rfl d_M_act_305 <|
  gM_91 rfl d_M_act_306 <|
  J_aload_n (i := 0) rfl rfl d_M_act_309 <|
  gM_28 rfl d_M_act_310 <|
  J_iload_n (i := 1) rfl rfl d_M_act_313 <|
  J_iald ((((((((((h).2).2).2).2).2).2).2).1 c37)).1 d_M_act_314 <|
  J_iload (i := 5) rfl d_M_act_315 <|
  J_iast (((((((((((h).2).2).2).2).2).2).2).1 c37)).2).1 d_M_act_317 <|
  J_goto (tgt := 372) d_M_act_318 (by decide) <|
  J_vret rfl d_M_act_372 ((((((((((((h).2).2).2).2).2).2).2).1 c37)).2).2)) <| fun c37_6 =>
  Classical.byCases (p := (σ 31 x1.toNatClampNeg) = (nI 7)) (fun c37 => J_tabIn (tgt := 321) c37 d_M_act_86 (by decide) (by decide) rfl (by decide) <|
  J_aload_n (i := 0) rfl rfl d_M_act_321 <|
  J_iload_n (i := 1) rfl rfl d_M_act_322 <|
  J_iload_n (i := 2) rfl rfl d_M_act_323 <|
  J_iload (i := 5) rfl d_M_act_324 <|
  kM_238_v rfl rfl rfl (args := [.inl x1, .inl x2, .inl y0]) (((((((((((h).2).2).2).2).2).2).2).2).1 c37)) d_M_act_326 (fun s30 h31 =>
  J_goto (tgt := 372) d_M_act_329 (by decide) <|
  J_vret rfl d_M_act_372 (h31))) <| fun c37_7 =>
  Classical.byCases (p := (σ 31 x1.toNatClampNeg) = (nI 8)) (fun c37 => J_tabIn (tgt := 332) c37 d_M_act_86 (by decide) (by decide) rfl (by decide) <|
  J_aload_n (i := 0) rfl rfl d_M_act_332 <|
  gM_103 rfl d_M_act_333 <|
  J_iload_n (i := 3) rfl rfl d_M_act_336 <|
  J_iload (i := 5) rfl d_M_act_337 <|
  J_if_lt (tgt := 352) d_M_act_339 (by decide) (fun c34 =>
  J_iload (i := 4) rfl d_M_act_352 <|
  J_iast ((((((((((((((h).2).2).2).2).2).2).2).2).2).1 c37)).1 c34)).1 d_M_act_354 <|
  J_goto (tgt := 372) d_M_act_355 (by decide) <|
  J_vret rfl d_M_act_372 (((((((((((((((h).2).2).2).2).2).2).2).2).2).1 c37)).1 c34)).2)) (fun c34 =>
  J_aload_n (i := 0) rfl rfl d_M_act_342 <|
  gM_88 rfl d_M_act_343 <|
  J_iload (i := 5) rfl d_M_act_346 <|
  J_iald ((((((((((((((h).2).2).2).2).2).2).2).2).2).1 c37)).2 c34)).1 d_M_act_348 <|
  J_goto (tgt := 354) d_M_act_349 (by decide) <|
  J_iast (((((((((((((((h).2).2).2).2).2).2).2).2).2).1 c37)).2 c34)).2).1 d_M_act_354 <|
  J_goto (tgt := 372) d_M_act_355 (by decide) <|
  J_vret rfl d_M_act_372 ((((((((((((((((h).2).2).2).2).2).2).2).2).2).1 c37)).2 c34)).2).2))) <| fun c37_8 =>
  J_tabOut (x := (σ 31 x1.toNatClampNeg)) (tgt := 358) (by have q0 := lv_neT (a := 0) c37_0 (by decide); have q1 := lv_neT (a := 1) c37_1 (by decide); have q2 := lv_neT (a := 2) c37_2 (by decide); have q3 := lv_neT (a := 3) c37_3 (by decide); have q4 := lv_neT (a := 4) c37_4 (by decide); have q5 := lv_neT (a := 5) c37_5 (by decide); have q6 := lv_neT (a := 6) c37_6 (by decide); have q7 := lv_neT (a := 7) c37_7 (by decide); have q8 := lv_neT (a := 8) c37_8 (by decide); omega) d_M_act_86 (by decide) <|
  J_iload (i := 4) rfl d_M_act_358 <|
  J_if_lt (tgt := 372) d_M_act_360 (by decide) (fun c36 =>
  J_vret rfl d_M_act_372 (((((((((((((((h).2).2).2).2).2).2).2).2).2).2) c37_0 c37_1 c37_2 c37_3 c37_4 c37_5 c37_6 c37_7 c37_8)).1 c36))) (fun c36 =>
  J_aload_n (i := 0) rfl rfl d_M_act_363 <|
  gM_88 rfl d_M_act_364 <|
  J_iload (i := 4) rfl d_M_act_367 <|
  J_iload (i := 5) rfl d_M_act_369 <|
  J_iast (((((((((((((((h).2).2).2).2).2).2).2).2).2).2) c37_0 c37_1 c37_2 c37_3 c37_4 c37_5 c37_6 c37_7 c37_8)).2 c36)).1 d_M_act_371 <|
  J_vret rfl d_M_act_372 ((((((((((((((((h).2).2).2).2).2).2).2).2).2).2) c37_0 c37_1 c37_2 c37_3 c37_4 c37_5 c37_6 c37_7 c37_8)).2 c36)).2))
