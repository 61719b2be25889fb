theorem d_O_cls_0 : decode prog_1_method_2_code 0 = .ok (.iload_n 1, 1) := by decide +kernel
theorem d_O_cls_1 : decode prog_1_method_2_code 1 = .ok (.iconst (-1), 1) := by decide +kernel
theorem d_O_cls_2 : decode prog_1_method_2_code 2 = .ok (.if_icmp .eq 16, 3) := by decide +kernel
theorem d_O_cls_5 : decode prog_1_method_2_code 5 = .ok (.aload_n 0, 1) := by decide +kernel
theorem d_O_cls_6 : decode prog_1_method_2_code 6 = .ok (.getfield 12, 3) := by decide +kernel
theorem d_O_cls_9 : decode prog_1_method_2_code 9 = .ok (.iload_n 1, 1) := by decide +kernel
theorem d_O_cls_10 : decode prog_1_method_2_code 10 = .ok (.invokevirtual 34, 3) := by decide +kernel
theorem d_O_cls_13 : decode prog_1_method_2_code 13 = .ok (.ifCond .ne 5, 3) := by decide +kernel
theorem d_O_cls_16 : decode prog_1_method_2_code 16 = .ok (.iconst (-1), 1) := by decide +kernel
theorem d_O_cls_17 : decode prog_1_method_2_code 17 = .ok (.ireturn, 1) := by decide +kernel
theorem d_O_cls_18 : decode prog_1_method_2_code 18 = .ok (.aload_n 0, 1) := by decide +kernel
theorem d_O_cls_19 : decode prog_1_method_2_code 19 = .ok (.getfield 12, 3) := by decide +kernel
theorem d_O_cls_22 : decode prog_1_method_2_code 22 = .ok (.getfield 38, 3) := by decide +kernel
theorem d_O_cls_25 : decode prog_1_method_2_code 25 = .ok (.bipush 8, 2) := by decide +kernel
theorem d_O_cls_27 : decode prog_1_method_2_code 27 = .ok (.if_icmp .lt 6, 3) := by decide +kernel
theorem d_O_cls_30 : decode prog_1_method_2_code 30 = .ok (.bipush (-4), 2) := by decide +kernel
theorem d_O_cls_32 : decode prog_1_method_2_code 32 = .ok (.ireturn, 1) := by decide +kernel
theorem d_O_cls_33 : decode prog_1_method_2_code 33 = .ok (.aload_n 0, 1) := by decide +kernel
theorem d_O_cls_34 : decode prog_1_method_2_code 34 = .ok (.invokevirtual 42, 3) := by decide +kernel
theorem d_O_cls_37 : decode prog_1_method_2_code 37 = .ok (.aload_n 0, 1) := by decide +kernel
theorem d_O_cls_38 : decode prog_1_method_2_code 38 = .ok (.getfield 12, 3) := by decide +kernel
theorem d_O_cls_41 : decode prog_1_method_2_code 41 = .ok (.iload_n 1, 1) := by decide +kernel
theorem d_O_cls_42 : decode prog_1_method_2_code 42 = .ok (.invokevirtual 45, 3) := by decide +kernel
theorem d_O_cls_45 : decode prog_1_method_2_code 45 = .ok (.ireturn, 1) := by decide +kernel
theorem d_O_field_0 : decode prog_1_method_3_code 0 = .ok (.aload_n 0, 1) := by decide +kernel
theorem d_O_field_1 : decode prog_1_method_3_code 1 = .ok (.getfield 12, 3) := by decide +kernel
theorem d_O_field_4 : decode prog_1_method_3_code 4 = .ok (.iload_n 1, 1) := by decide +kernel
theorem d_O_field_5 : decode prog_1_method_3_code 5 = .ok (.invokevirtual 34, 3) := by decide +kernel
theorem d_O_field_8 : decode prog_1_method_3_code 8 = .ok (.ifCond .ne 5, 3) := by decide +kernel
theorem d_O_field_11 : decode prog_1_method_3_code 11 = .ok (.iconst (-1), 1) := by decide +kernel
theorem d_O_field_12 : decode prog_1_method_3_code 12 = .ok (.ireturn, 1) := by decide +kernel
theorem d_O_field_13 : decode prog_1_method_3_code 13 = .ok (.aload_n 0, 1) := by decide +kernel
theorem d_O_field_14 : decode prog_1_method_3_code 14 = .ok (.getfield 12, 3) := by decide +kernel
theorem d_O_field_17 : decode prog_1_method_3_code 17 = .ok (.getfield 49, 3) := by decide +kernel
theorem d_O_field_20 : decode prog_1_method_3_code 20 = .ok (.bipush 8, 2) := by decide +kernel
theorem d_O_field_22 : decode prog_1_method_3_code 22 = .ok (.if_icmp .lt 6, 3) := by decide +kernel
theorem d_O_field_25 : decode prog_1_method_3_code 25 = .ok (.bipush (-4), 2) := by decide +kernel
theorem d_O_field_27 : decode prog_1_method_3_code 27 = .ok (.ireturn, 1) := by decide +kernel
theorem d_O_field_28 : decode prog_1_method_3_code 28 = .ok (.aload_n 0, 1) := by decide +kernel
theorem d_O_field_29 : decode prog_1_method_3_code 29 = .ok (.invokevirtual 42, 3) := by decide +kernel
theorem d_O_field_32 : decode prog_1_method_3_code 32 = .ok (.aload_n 0, 1) := by decide +kernel
theorem d_O_field_33 : decode prog_1_method_3_code 33 = .ok (.getfield 12, 3) := by decide +kernel
theorem d_O_field_36 : decode prog_1_method_3_code 36 = .ok (.iload_n 1, 1) := by decide +kernel
theorem d_O_field_37 : decode prog_1_method_3_code 37 = .ok (.invokevirtual 52, 3) := by decide +kernel
theorem d_O_field_40 : decode prog_1_method_3_code 40 = .ok (.ireturn, 1) := by decide +kernel
theorem d_O_method_0 : decode prog_1_method_4_code 0 = .ok (.aload_n 0, 1) := by decide +kernel
theorem d_O_method_1 : decode prog_1_method_4_code 1 = .ok (.getfield 12, 3) := by decide +kernel
theorem d_O_method_4 : decode prog_1_method_4_code 4 = .ok (.iload_n 1, 1) := by decide +kernel
theorem d_O_method_5 : decode prog_1_method_4_code 5 = .ok (.invokevirtual 34, 3) := by decide +kernel
theorem d_O_method_8 : decode prog_1_method_4_code 8 = .ok (.ifCond .ne 5, 3) := by decide +kernel
theorem d_O_method_11 : decode prog_1_method_4_code 11 = .ok (.iconst (-1), 1) := by decide +kernel
theorem d_O_method_12 : decode prog_1_method_4_code 12 = .ok (.ireturn, 1) := by decide +kernel
theorem d_O_method_13 : decode prog_1_method_4_code 13 = .ok (.iload_n 2, 1) := by decide +kernel
theorem d_O_method_14 : decode prog_1_method_4_code 14 = .ok (.invokestatic 55, 3) := by decide +kernel
theorem d_O_method_17 : decode prog_1_method_4_code 17 = .ok (.ifCond .ne 6, 3) := by decide +kernel
theorem d_O_method_20 : decode prog_1_method_4_code 20 = .ok (.bipush (-2), 2) := by decide +kernel
theorem d_O_method_22 : decode prog_1_method_4_code 22 = .ok (.ireturn, 1) := by decide +kernel
theorem d_O_method_23 : decode prog_1_method_4_code 23 = .ok (.aload_n 0, 1) := by decide +kernel
theorem d_O_method_24 : decode prog_1_method_4_code 24 = .ok (.getfield 12, 3) := by decide +kernel
theorem d_O_method_27 : decode prog_1_method_4_code 27 = .ok (.iload_n 1, 1) := by decide +kernel
theorem d_O_method_28 : decode prog_1_method_4_code 28 = .ok (.iload_n 2, 1) := by decide +kernel
theorem d_O_method_29 : decode prog_1_method_4_code 29 = .ok (.invokevirtual 58, 3) := by decide +kernel
theorem d_O_method_32 : decode prog_1_method_4_code 32 = .ok (.iconst (-1), 1) := by decide +kernel
theorem d_O_method_33 : decode prog_1_method_4_code 33 = .ok (.if_icmp .eq 6, 3) := by decide +kernel
theorem d_O_method_36 : decode prog_1_method_4_code 36 = .ok (.bipush (-3), 2) := by decide +kernel
theorem d_O_method_38 : decode prog_1_method_4_code 38 = .ok (.ireturn, 1) := by decide +kernel
theorem d_O_method_39 : decode prog_1_method_4_code 39 = .ok (.aload_n 0, 1) := by decide +kernel
theorem d_O_method_40 : decode prog_1_method_4_code 40 = .ok (.getfield 12, 3) := by decide +kernel
theorem d_O_method_43 : decode prog_1_method_4_code 43 = .ok (.getfield 62, 3) := by decide +kernel
theorem d_O_method_46 : decode prog_1_method_4_code 46 = .ok (.bipush 10, 2) := by decide +kernel
theorem d_O_method_48 : decode prog_1_method_4_code 48 = .ok (.if_icmp .lt 6, 3) := by decide +kernel
theorem d_O_method_51 : decode prog_1_method_4_code 51 = .ok (.bipush (-4), 2) := by decide +kernel
theorem d_O_method_53 : decode prog_1_method_4_code 53 = .ok (.ireturn, 1) := by decide +kernel
theorem d_O_method_54 : decode prog_1_method_4_code 54 = .ok (.aload_n 0, 1) := by decide +kernel
theorem d_O_method_55 : decode prog_1_method_4_code 55 = .ok (.invokevirtual 42, 3) := by decide +kernel
theorem d_O_method_58 : decode prog_1_method_4_code 58 = .ok (.aload_n 0, 1) := by decide +kernel
theorem d_O_method_59 : decode prog_1_method_4_code 59 = .ok (.getfield 12, 3) := by decide +kernel
theorem d_O_method_62 : decode prog_1_method_4_code 62 = .ok (.iload_n 1, 1) := by decide +kernel
theorem d_O_method_63 : decode prog_1_method_4_code 63 = .ok (.iload_n 2, 1) := by decide +kernel
theorem d_O_method_64 : decode prog_1_method_4_code 64 = .ok (.invokevirtual 65, 3) := by decide +kernel
theorem d_O_method_67 : decode prog_1_method_4_code 67 = .ok (.ireturn, 1) := by decide +kernel
theorem d_O_statement_0 : decode prog_1_method_5_code 0 = .ok (.aload_n 0, 1) := by decide +kernel
theorem d_O_statement_1 : decode prog_1_method_5_code 1 = .ok (.getfield 12, 3) := by decide +kernel
theorem d_O_statement_4 : decode prog_1_method_5_code 4 = .ok (.iload_n 1, 1) := by decide +kernel
theorem d_O_statement_5 : decode prog_1_method_5_code 5 = .ok (.invokevirtual 68, 3) := by decide +kernel
theorem d_O_statement_8 : decode prog_1_method_5_code 8 = .ok (.ifCond .ne 5, 3) := by decide +kernel
theorem d_O_statement_11 : decode prog_1_method_5_code 11 = .ok (.iconst (-1), 1) := by decide +kernel
theorem d_O_statement_12 : decode prog_1_method_5_code 12 = .ok (.ireturn, 1) := by decide +kernel
theorem d_O_statement_13 : decode prog_1_method_5_code 13 = .ok (.iload_n 2, 1) := by decide +kernel
theorem d_O_statement_14 : decode prog_1_method_5_code 14 = .ok (.ifCond .lt 9, 3) := by decide +kernel
theorem d_O_statement_17 : decode prog_1_method_5_code 17 = .ok (.iload_n 2, 1) := by decide +kernel
theorem d_O_statement_18 : decode prog_1_method_5_code 18 = .ok (.bipush 9, 2) := by decide +kernel
theorem d_O_statement_20 : decode prog_1_method_5_code 20 = .ok (.if_icmp .le 6, 3) := by decide +kernel
theorem d_O_statement_23 : decode prog_1_method_5_code 23 = .ok (.bipush (-2), 2) := by decide +kernel
theorem d_O_statement_25 : decode prog_1_method_5_code 25 = .ok (.ireturn, 1) := by decide +kernel
theorem d_O_statement_26 : decode prog_1_method_5_code 26 = .ok (.aload_n 0, 1) := by decide +kernel
theorem d_O_statement_27 : decode prog_1_method_5_code 27 = .ok (.getfield 12, 3) := by decide +kernel
theorem d_O_statement_30 : decode prog_1_method_5_code 30 = .ok (.iload_n 2, 1) := by decide +kernel
theorem d_O_statement_31 : decode prog_1_method_5_code 31 = .ok (.iload_n 3, 1) := by decide +kernel
theorem d_O_statement_32 : decode prog_1_method_5_code 32 = .ok (.iload 4, 2) := by decide +kernel
theorem d_O_statement_34 : decode prog_1_method_5_code 34 = .ok (.iload 5, 2) := by decide +kernel
theorem d_O_statement_36 : decode prog_1_method_5_code 36 = .ok (.iload 6, 2) := by decide +kernel
theorem d_O_statement_38 : decode prog_1_method_5_code 38 = .ok (.iload 7, 2) := by decide +kernel
theorem d_O_statement_40 : decode prog_1_method_5_code 40 = .ok (.invokevirtual 71, 3) := by decide +kernel
theorem d_O_statement_43 : decode prog_1_method_5_code 43 = .ok (.ifCond .ne 5, 3) := by decide +kernel
theorem d_O_statement_46 : decode prog_1_method_5_code 46 = .ok (.iconst (-1), 1) := by decide +kernel
theorem d_O_statement_47 : decode prog_1_method_5_code 47 = .ok (.ireturn, 1) := by decide +kernel
theorem d_O_statement_48 : decode prog_1_method_5_code 48 = .ok (.iload_n 2, 1) := by decide +kernel
theorem d_O_statement_49 : decode prog_1_method_5_code 49 = .ok (.bipush 7, 2) := by decide +kernel
theorem d_O_statement_51 : decode prog_1_method_5_code 51 = .ok (.if_icmp .ne 14, 3) := by decide +kernel
theorem d_O_statement_54 : decode prog_1_method_5_code 54 = .ok (.iload 5, 2) := by decide +kernel
theorem d_O_statement_56 : decode prog_1_method_5_code 56 = .ok (.invokestatic 55, 3) := by decide +kernel
theorem d_O_statement_59 : decode prog_1_method_5_code 59 = .ok (.ifCond .ne 6, 3) := by decide +kernel
theorem d_O_statement_62 : decode prog_1_method_5_code 62 = .ok (.bipush (-2), 2) := by decide +kernel
theorem d_O_statement_64 : decode prog_1_method_5_code 64 = .ok (.ireturn, 1) := by decide +kernel
theorem d_O_statement_65 : decode prog_1_method_5_code 65 = .ok (.aload_n 0, 1) := by decide +kernel
theorem d_O_statement_66 : decode prog_1_method_5_code 66 = .ok (.getfield 12, 3) := by decide +kernel
theorem d_O_statement_69 : decode prog_1_method_5_code 69 = .ok (.iload_n 2, 1) := by decide +kernel
theorem d_O_statement_70 : decode prog_1_method_5_code 70 = .ok (.invokevirtual 75, 3) := by decide +kernel
theorem d_O_statement_73 : decode prog_1_method_5_code 73 = .ok (.ifCond .ne 6, 3) := by decide +kernel
theorem d_O_statement_76 : decode prog_1_method_5_code 76 = .ok (.bipush (-4), 2) := by decide +kernel
theorem d_O_statement_78 : decode prog_1_method_5_code 78 = .ok (.ireturn, 1) := by decide +kernel
theorem d_O_statement_79 : decode prog_1_method_5_code 79 = .ok (.aload_n 0, 1) := by decide +kernel
theorem d_O_statement_80 : decode prog_1_method_5_code 80 = .ok (.invokevirtual 42, 3) := by decide +kernel
theorem d_O_statement_83 : decode prog_1_method_5_code 83 = .ok (.aload_n 0, 1) := by decide +kernel
theorem d_O_statement_84 : decode prog_1_method_5_code 84 = .ok (.getfield 12, 3) := by decide +kernel
theorem d_O_statement_87 : decode prog_1_method_5_code 87 = .ok (.invokevirtual 78, 3) := by decide +kernel
theorem d_O_statement_90 : decode prog_1_method_5_code 90 = .ok (.iload_n 2, 1) := by decide +kernel
theorem d_O_statement_91 : decode prog_1_method_5_code 91 = .ok (.iload_n 3, 1) := by decide +kernel
theorem d_O_statement_92 : decode prog_1_method_5_code 92 = .ok (.iload 4, 2) := by decide +kernel
theorem d_O_statement_94 : decode prog_1_method_5_code 94 = .ok (.iload 5, 2) := by decide +kernel
theorem d_O_statement_96 : decode prog_1_method_5_code 96 = .ok (.iload 6, 2) := by decide +kernel
theorem d_O_statement_98 : decode prog_1_method_5_code 98 = .ok (.iload 7, 2) := by decide +kernel
theorem d_O_statement_100 : decode prog_1_method_5_code 100 = .ok (.invokevirtual 82, 3) := by decide +kernel
theorem d_O_statement_103 : decode prog_1_method_5_code 103 = .ok (.aload_n 0, 1) := by decide +kernel
theorem d_O_statement_104 : decode prog_1_method_5_code 104 = .ok (.getfield 12, 3) := by decide +kernel
theorem d_O_statement_107 : decode prog_1_method_5_code 107 = .ok (.iload_n 1, 1) := by decide +kernel
theorem d_O_statement_108 : decode prog_1_method_5_code 108 = .ok (.invokevirtual 88, 3) := by decide +kernel
theorem d_O_statement_111 : decode prog_1_method_5_code 111 = .ok (.ireturn, 1) := by decide +kernel
theorem d_O_mode_0 : decode prog_1_method_6_code 0 = .ok (.iload_n 1, 1) := by decide +kernel
theorem d_O_mode_1 : decode prog_1_method_6_code 1 = .ok (.ifCond .eq 11, 3) := by decide +kernel
theorem d_O_mode_4 : decode prog_1_method_6_code 4 = .ok (.iload_n 1, 1) := by decide +kernel
theorem d_O_mode_5 : decode prog_1_method_6_code 5 = .ok (.iconst 1, 1) := by decide +kernel
theorem d_O_mode_6 : decode prog_1_method_6_code 6 = .ok (.if_icmp .eq 6, 3) := by decide +kernel
theorem d_O_mode_9 : decode prog_1_method_6_code 9 = .ok (.bipush (-2), 2) := by decide +kernel
theorem d_O_mode_11 : decode prog_1_method_6_code 11 = .ok (.ireturn, 1) := by decide +kernel
theorem d_O_mode_12 : decode prog_1_method_6_code 12 = .ok (.aload_n 0, 1) := by decide +kernel
theorem d_O_mode_13 : decode prog_1_method_6_code 13 = .ok (.getfield 21, 3) := by decide +kernel
theorem d_O_mode_16 : decode prog_1_method_6_code 16 = .ok (.getfield 91, 3) := by decide +kernel
theorem d_O_mode_19 : decode prog_1_method_6_code 19 = .ok (.ifCond .eq 7, 3) := by decide +kernel
theorem d_O_mode_22 : decode prog_1_method_6_code 22 = .ok (.iconst 1, 1) := by decide +kernel
theorem d_O_mode_23 : decode prog_1_method_6_code 23 = .ok (.goto 4, 3) := by decide +kernel
theorem d_O_mode_26 : decode prog_1_method_6_code 26 = .ok (.iconst 0, 1) := by decide +kernel
theorem d_O_mode_27 : decode prog_1_method_6_code 27 = .ok (.istore_n 2, 1) := by decide +kernel
theorem d_O_mode_28 : decode prog_1_method_6_code 28 = .ok (.aload_n 0, 1) := by decide +kernel
theorem d_O_mode_29 : decode prog_1_method_6_code 29 = .ok (.invokevirtual 42, 3) := by decide +kernel
theorem d_O_mode_32 : decode prog_1_method_6_code 32 = .ok (.aload_n 0, 1) := by decide +kernel
theorem d_O_mode_33 : decode prog_1_method_6_code 33 = .ok (.getfield 21, 3) := by decide +kernel
theorem d_O_mode_36 : decode prog_1_method_6_code 36 = .ok (.iload_n 1, 1) := by decide +kernel
theorem d_O_mode_37 : decode prog_1_method_6_code 37 = .ok (.iconst 1, 1) := by decide +kernel
theorem d_O_mode_38 : decode prog_1_method_6_code 38 = .ok (.if_icmp .ne 7, 3) := by decide +kernel
theorem d_O_mode_41 : decode prog_1_method_6_code 41 = .ok (.iconst 1, 1) := by decide +kernel
theorem d_O_mode_42 : decode prog_1_method_6_code 42 = .ok (.goto 4, 3) := by decide +kernel
theorem d_O_mode_45 : decode prog_1_method_6_code 45 = .ok (.iconst 0, 1) := by decide +kernel
theorem d_O_mode_46 : decode prog_1_method_6_code 46 = .ok (.putfield 91, 3) := by decide +kernel
theorem d_O_mode_49 : decode prog_1_method_6_code 49 = .ok (.iload_n 2, 1) := by decide +kernel
theorem d_O_mode_50 : decode prog_1_method_6_code 50 = .ok (.ireturn, 1) := by decide +kernel
theorem d_O_clear_0 : decode prog_1_method_7_code 0 = .ok (.aload_n 0, 1) := by decide +kernel
theorem d_O_clear_1 : decode prog_1_method_7_code 1 = .ok (.getfield 12, 3) := by decide +kernel
theorem d_O_clear_4 : decode prog_1_method_7_code 4 = .ok (.getfield 95, 3) := by decide +kernel
theorem d_O_clear_7 : decode prog_1_method_7_code 7 = .ok (.istore_n 1, 1) := by decide +kernel
theorem d_O_clear_8 : decode prog_1_method_7_code 8 = .ok (.aload_n 0, 1) := by decide +kernel
theorem d_O_clear_9 : decode prog_1_method_7_code 9 = .ok (.invokevirtual 42, 3) := by decide +kernel
theorem d_O_clear_12 : decode prog_1_method_7_code 12 = .ok (.aload_n 0, 1) := by decide +kernel
theorem d_O_clear_13 : decode prog_1_method_7_code 13 = .ok (.getfield 12, 3) := by decide +kernel
theorem d_O_clear_16 : decode prog_1_method_7_code 16 = .ok (.invokevirtual 98, 3) := by decide +kernel
theorem d_O_clear_19 : decode prog_1_method_7_code 19 = .ok (.iload_n 1, 1) := by decide +kernel
theorem d_O_clear_20 : decode prog_1_method_7_code 20 = .ok (.ireturn, 1) := by decide +kernel
theorem d_O_points_0 : decode prog_1_method_8_code 0 = .ok (.aload_n 0, 1) := by decide +kernel
theorem d_O_points_1 : decode prog_1_method_8_code 1 = .ok (.getfield 12, 3) := by decide +kernel
theorem d_O_points_4 : decode prog_1_method_8_code 4 = .ok (.iload_n 1, 1) := by decide +kernel
theorem d_O_points_5 : decode prog_1_method_8_code 5 = .ok (.iload_n 3, 1) := by decide +kernel
theorem d_O_points_6 : decode prog_1_method_8_code 6 = .ok (.invokevirtual 101, 3) := by decide +kernel
theorem d_O_points_9 : decode prog_1_method_8_code 9 = .ok (.ifCond .ne 5, 3) := by decide +kernel
theorem d_O_points_12 : decode prog_1_method_8_code 12 = .ok (.iconst (-1), 1) := by decide +kernel
theorem d_O_points_13 : decode prog_1_method_8_code 13 = .ok (.ireturn, 1) := by decide +kernel
theorem d_O_points_14 : decode prog_1_method_8_code 14 = .ok (.iload_n 2, 1) := by decide +kernel
theorem d_O_points_15 : decode prog_1_method_8_code 15 = .ok (.iconst (-1), 1) := by decide +kernel
theorem d_O_points_16 : decode prog_1_method_8_code 16 = .ok (.if_icmp .eq 16, 3) := by decide +kernel
theorem d_O_points_19 : decode prog_1_method_8_code 19 = .ok (.aload_n 0, 1) := by decide +kernel
theorem d_O_points_20 : decode prog_1_method_8_code 20 = .ok (.getfield 21, 3) := by decide +kernel
theorem d_O_points_23 : decode prog_1_method_8_code 23 = .ok (.iload_n 2, 1) := by decide +kernel
theorem d_O_points_24 : decode prog_1_method_8_code 24 = .ok (.invokevirtual 105, 3) := by decide +kernel
theorem d_O_points_27 : decode prog_1_method_8_code 27 = .ok (.ifCond .ne 5, 3) := by decide +kernel
theorem d_O_points_30 : decode prog_1_method_8_code 30 = .ok (.iconst (-1), 1) := by decide +kernel
theorem d_O_points_31 : decode prog_1_method_8_code 31 = .ok (.ireturn, 1) := by decide +kernel
theorem d_O_points_32 : decode prog_1_method_8_code 32 = .ok (.aload_n 0, 1) := by decide +kernel
theorem d_O_points_33 : decode prog_1_method_8_code 33 = .ok (.getfield 21, 3) := by decide +kernel
theorem d_O_points_36 : decode prog_1_method_8_code 36 = .ok (.invokevirtual 108, 3) := by decide +kernel
theorem d_O_points_39 : decode prog_1_method_8_code 39 = .ok (.iload_n 2, 1) := by decide +kernel
theorem d_O_points_40 : decode prog_1_method_8_code 40 = .ok (.iconst (-1), 1) := by decide +kernel
theorem d_O_points_41 : decode prog_1_method_8_code 41 = .ok (.if_icmp .ne 13, 3) := by decide +kernel
theorem d_O_points_44 : decode prog_1_method_8_code 44 = .ok (.aload_n 0, 1) := by decide +kernel
theorem d_O_points_45 : decode prog_1_method_8_code 45 = .ok (.getfield 21, 3) := by decide +kernel
theorem d_O_points_48 : decode prog_1_method_8_code 48 = .ok (.iload_n 1, 1) := by decide +kernel
theorem d_O_points_49 : decode prog_1_method_8_code 49 = .ok (.iload_n 3, 1) := by decide +kernel
theorem d_O_points_50 : decode prog_1_method_8_code 50 = .ok (.invokevirtual 111, 3) := by decide +kernel
theorem d_O_points_53 : decode prog_1_method_8_code 53 = .ok (.ireturn, 1) := by decide +kernel
theorem d_O_points_54 : decode prog_1_method_8_code 54 = .ok (.aload_n 0, 1) := by decide +kernel
theorem d_O_points_55 : decode prog_1_method_8_code 55 = .ok (.getfield 21, 3) := by decide +kernel
theorem d_O_points_58 : decode prog_1_method_8_code 58 = .ok (.iload_n 1, 1) := by decide +kernel
theorem d_O_points_59 : decode prog_1_method_8_code 59 = .ok (.iload_n 2, 1) := by decide +kernel
theorem d_O_points_60 : decode prog_1_method_8_code 60 = .ok (.invokestatic 114, 3) := by decide +kernel
theorem d_O_points_63 : decode prog_1_method_8_code 63 = .ok (.iload_n 3, 1) := by decide +kernel
theorem d_O_points_64 : decode prog_1_method_8_code 64 = .ok (.iadd, 1) := by decide +kernel
theorem d_O_points_65 : decode prog_1_method_8_code 65 = .ok (.invokevirtual 117, 3) := by decide +kernel
theorem d_O_points_68 : decode prog_1_method_8_code 68 = .ok (.ireturn, 1) := by decide +kernel
theorem d_O_inField_0 : decode prog_1_method_9_code 0 = .ok (.aload_n 0, 1) := by decide +kernel
theorem d_O_inField_1 : decode prog_1_method_9_code 1 = .ok (.getfield 12, 3) := by decide +kernel
theorem d_O_inField_4 : decode prog_1_method_9_code 4 = .ok (.iload_n 1, 1) := by decide +kernel
theorem d_O_inField_5 : decode prog_1_method_9_code 5 = .ok (.invokevirtual 120, 3) := by decide +kernel
theorem d_O_inField_8 : decode prog_1_method_9_code 8 = .ok (.ifCond .eq 14, 3) := by decide +kernel
theorem d_O_inField_11 : decode prog_1_method_9_code 11 = .ok (.aload_n 0, 1) := by decide +kernel
theorem d_O_inField_12 : decode prog_1_method_9_code 12 = .ok (.getfield 12, 3) := by decide +kernel
theorem d_O_inField_15 : decode prog_1_method_9_code 15 = .ok (.iload_n 2, 1) := by decide +kernel
theorem d_O_inField_16 : decode prog_1_method_9_code 16 = .ok (.invokevirtual 123, 3) := by decide +kernel
theorem d_O_inField_19 : decode prog_1_method_9_code 19 = .ok (.ifCond .ne 5, 3) := by decide +kernel
theorem d_O_inField_22 : decode prog_1_method_9_code 22 = .ok (.iconst (-1), 1) := by decide +kernel
theorem d_O_inField_23 : decode prog_1_method_9_code 23 = .ok (.ireturn, 1) := by decide +kernel
theorem d_O_inField_24 : decode prog_1_method_9_code 24 = .ok (.aload_n 0, 1) := by decide +kernel
theorem d_O_inField_25 : decode prog_1_method_9_code 25 = .ok (.getfield 21, 3) := by decide +kernel
theorem d_O_inField_28 : decode prog_1_method_9_code 28 = .ok (.invokevirtual 108, 3) := by decide +kernel
theorem d_O_inField_31 : decode prog_1_method_9_code 31 = .ok (.aload_n 0, 1) := by decide +kernel
theorem d_O_inField_32 : decode prog_1_method_9_code 32 = .ok (.getfield 21, 3) := by decide +kernel
theorem d_O_inField_35 : decode prog_1_method_9_code 35 = .ok (.iload_n 1, 1) := by decide +kernel
theorem d_O_inField_36 : decode prog_1_method_9_code 36 = .ok (.iload_n 2, 1) := by decide +kernel
theorem d_O_inField_37 : decode prog_1_method_9_code 37 = .ok (.invokestatic 126, 3) := by decide +kernel
theorem d_O_inField_40 : decode prog_1_method_9_code 40 = .ok (.invokevirtual 117, 3) := by decide +kernel
theorem d_O_inField_43 : decode prog_1_method_9_code 43 = .ok (.ireturn, 1) := by decide +kernel
theorem d_O_element_0 : decode prog_1_method_10_code 0 = .ok (.aload_n 0, 1) := by decide +kernel
theorem d_O_element_1 : decode prog_1_method_10_code 1 = .ok (.getfield 12, 3) := by decide +kernel
theorem d_O_element_4 : decode prog_1_method_10_code 4 = .ok (.iload_n 1, 1) := by decide +kernel
theorem d_O_element_5 : decode prog_1_method_10_code 5 = .ok (.invokevirtual 120, 3) := by decide +kernel
theorem d_O_element_8 : decode prog_1_method_10_code 8 = .ok (.ifCond .ne 5, 3) := by decide +kernel
theorem d_O_element_11 : decode prog_1_method_10_code 11 = .ok (.iconst (-1), 1) := by decide +kernel
theorem d_O_element_12 : decode prog_1_method_10_code 12 = .ok (.ireturn, 1) := by decide +kernel
theorem d_O_element_13 : decode prog_1_method_10_code 13 = .ok (.aload_n 0, 1) := by decide +kernel
theorem d_O_element_14 : decode prog_1_method_10_code 14 = .ok (.getfield 21, 3) := by decide +kernel
theorem d_O_element_17 : decode prog_1_method_10_code 17 = .ok (.invokevirtual 108, 3) := by decide +kernel
theorem d_O_element_20 : decode prog_1_method_10_code 20 = .ok (.aload_n 0, 1) := by decide +kernel
theorem d_O_element_21 : decode prog_1_method_10_code 21 = .ok (.getfield 21, 3) := by decide +kernel
theorem d_O_element_24 : decode prog_1_method_10_code 24 = .ok (.iload_n 1, 1) := by decide +kernel
theorem d_O_element_25 : decode prog_1_method_10_code 25 = .ok (.bipush 8, 2) := by decide +kernel
theorem d_O_element_27 : decode prog_1_method_10_code 27 = .ok (.invokestatic 126, 3) := by decide +kernel
theorem d_O_element_30 : decode prog_1_method_10_code 30 = .ok (.invokevirtual 117, 3) := by decide +kernel
theorem d_O_element_33 : decode prog_1_method_10_code 33 = .ok (.ireturn, 1) := by decide +kernel
theorem d_O_inStatic_0 : decode prog_1_method_11_code 0 = .ok (.iload_n 1, 1) := by decide +kernel
theorem d_O_inStatic_1 : decode prog_1_method_11_code 1 = .ok (.invokestatic 129, 3) := by decide +kernel
theorem d_O_inStatic_4 : decode prog_1_method_11_code 4 = .ok (.ifCond .ne 5, 3) := by decide +kernel
theorem d_O_inStatic_7 : decode prog_1_method_11_code 7 = .ok (.iconst (-1), 1) := by decide +kernel
theorem d_O_inStatic_8 : decode prog_1_method_11_code 8 = .ok (.ireturn, 1) := by decide +kernel
theorem d_O_inStatic_9 : decode prog_1_method_11_code 9 = .ok (.aload_n 0, 1) := by decide +kernel
theorem d_O_inStatic_10 : decode prog_1_method_11_code 10 = .ok (.getfield 21, 3) := by decide +kernel
theorem d_O_inStatic_13 : decode prog_1_method_11_code 13 = .ok (.invokevirtual 108, 3) := by decide +kernel
theorem d_O_inStatic_16 : decode prog_1_method_11_code 16 = .ok (.aload_n 0, 1) := by decide +kernel
theorem d_O_inStatic_17 : decode prog_1_method_11_code 17 = .ok (.getfield 21, 3) := by decide +kernel
theorem d_O_inStatic_20 : decode prog_1_method_11_code 20 = .ok (.sipush 1440, 3) := by decide +kernel
theorem d_O_inStatic_23 : decode prog_1_method_11_code 23 = .ok (.iload_n 1, 1) := by decide +kernel
theorem d_O_inStatic_24 : decode prog_1_method_11_code 24 = .ok (.iadd, 1) := by decide +kernel
theorem d_O_inStatic_25 : decode prog_1_method_11_code 25 = .ok (.invokevirtual 117, 3) := by decide +kernel
theorem d_O_inStatic_28 : decode prog_1_method_11_code 28 = .ok (.ireturn, 1) := by decide +kernel
theorem d_O_reached_0 : decode prog_1_method_12_code 0 = .ok (.aload_n 0, 1) := by decide +kernel
theorem d_O_reached_1 : decode prog_1_method_12_code 1 = .ok (.getfield 12, 3) := by decide +kernel
theorem d_O_reached_4 : decode prog_1_method_12_code 4 = .ok (.iload_n 1, 1) := by decide +kernel
theorem d_O_reached_5 : decode prog_1_method_12_code 5 = .ok (.invokevirtual 68, 3) := by decide +kernel
theorem d_O_reached_8 : decode prog_1_method_12_code 8 = .ok (.ifCond .ne 5, 3) := by decide +kernel
theorem d_O_reached_11 : decode prog_1_method_12_code 11 = .ok (.iconst (-1), 1) := by decide +kernel
theorem d_O_reached_12 : decode prog_1_method_12_code 12 = .ok (.ireturn, 1) := by decide +kernel
theorem d_O_reached_13 : decode prog_1_method_12_code 13 = .ok (.aload_n 0, 1) := by decide +kernel
theorem d_O_reached_14 : decode prog_1_method_12_code 14 = .ok (.getfield 21, 3) := by decide +kernel
theorem d_O_reached_17 : decode prog_1_method_12_code 17 = .ok (.invokevirtual 108, 3) := by decide +kernel
theorem d_O_reached_20 : decode prog_1_method_12_code 20 = .ok (.aload_n 0, 1) := by decide +kernel
theorem d_O_reached_21 : decode prog_1_method_12_code 21 = .ok (.getfield 21, 3) := by decide +kernel
theorem d_O_reached_24 : decode prog_1_method_12_code 24 = .ok (.sipush 1444, 3) := by decide +kernel
theorem d_O_reached_27 : decode prog_1_method_12_code 27 = .ok (.iload_n 1, 1) := by decide +kernel
theorem d_O_reached_28 : decode prog_1_method_12_code 28 = .ok (.iadd, 1) := by decide +kernel
theorem d_O_reached_29 : decode prog_1_method_12_code 29 = .ok (.invokevirtual 117, 3) := by decide +kernel
theorem d_O_reached_32 : decode prog_1_method_12_code 32 = .ok (.invokestatic 132, 3) := by decide +kernel
theorem d_O_reached_35 : decode prog_1_method_12_code 35 = .ok (.ireturn, 1) := by decide +kernel
theorem d_O_may_0 : decode prog_1_method_13_code 0 = .ok (.aload_n 0, 1) := by decide +kernel
theorem d_O_may_1 : decode prog_1_method_13_code 1 = .ok (.getfield 12, 3) := by decide +kernel
theorem d_O_may_4 : decode prog_1_method_13_code 4 = .ok (.iload_n 1, 1) := by decide +kernel
theorem d_O_may_5 : decode prog_1_method_13_code 5 = .ok (.invokevirtual 137, 3) := by decide +kernel
theorem d_O_may_8 : decode prog_1_method_13_code 8 = .ok (.ifCond .ne 5, 3) := by decide +kernel
theorem d_O_may_11 : decode prog_1_method_13_code 11 = .ok (.iconst (-1), 1) := by decide +kernel
theorem d_O_may_12 : decode prog_1_method_13_code 12 = .ok (.ireturn, 1) := by decide +kernel
theorem d_O_may_13 : decode prog_1_method_13_code 13 = .ok (.aload_n 0, 1) := by decide +kernel
theorem d_O_may_14 : decode prog_1_method_13_code 14 = .ok (.getfield 12, 3) := by decide +kernel
theorem d_O_may_17 : decode prog_1_method_13_code 17 = .ok (.getfield 140, 3) := by decide +kernel
theorem d_O_may_20 : decode prog_1_method_13_code 20 = .ok (.iload_n 1, 1) := by decide +kernel
theorem d_O_may_21 : decode prog_1_method_13_code 21 = .ok (.aaload, 1) := by decide +kernel
theorem d_O_may_22 : decode prog_1_method_13_code 22 = .ok (.astore_n 2, 1) := by decide +kernel
theorem d_O_may_23 : decode prog_1_method_13_code 23 = .ok (.aload_n 2, 1) := by decide +kernel
theorem d_O_may_24 : decode prog_1_method_13_code 24 = .ok (.getfield 144, 3) := by decide +kernel
theorem d_O_may_27 : decode prog_1_method_13_code 27 = .ok (.bipush 7, 2) := by decide +kernel
theorem d_O_may_29 : decode prog_1_method_13_code 29 = .ok (.if_icmp .eq 14, 3) := by decide +kernel
theorem d_O_may_32 : decode prog_1_method_13_code 32 = .ok (.aload_n 2, 1) := by decide +kernel
theorem d_O_may_33 : decode prog_1_method_13_code 33 = .ok (.getfield 144, 3) := by decide +kernel
theorem d_O_may_36 : decode prog_1_method_13_code 36 = .ok (.iconst 4, 1) := by decide +kernel
theorem d_O_may_37 : decode prog_1_method_13_code 37 = .ok (.if_icmp .eq 6, 3) := by decide +kernel
theorem d_O_may_40 : decode prog_1_method_13_code 40 = .ok (.bipush (-3), 2) := by decide +kernel
theorem d_O_may_42 : decode prog_1_method_13_code 42 = .ok (.ireturn, 1) := by decide +kernel
theorem d_O_may_43 : decode prog_1_method_13_code 43 = .ok (.aload_n 0, 1) := by decide +kernel
theorem d_O_may_44 : decode prog_1_method_13_code 44 = .ok (.getfield 21, 3) := by decide +kernel
theorem d_O_may_47 : decode prog_1_method_13_code 47 = .ok (.invokevirtual 108, 3) := by decide +kernel
theorem d_O_may_50 : decode prog_1_method_13_code 50 = .ok (.aload_n 0, 1) := by decide +kernel
theorem d_O_may_51 : decode prog_1_method_13_code 51 = .ok (.getfield 21, 3) := by decide +kernel
theorem d_O_may_54 : decode prog_1_method_13_code 54 = .ok (.aload_n 2, 1) := by decide +kernel
theorem d_O_may_55 : decode prog_1_method_13_code 55 = .ok (.getfield 147, 3) := by decide +kernel
theorem d_O_may_58 : decode prog_1_method_13_code 58 = .ok (.aload_n 2, 1) := by decide +kernel
theorem d_O_may_59 : decode prog_1_method_13_code 59 = .ok (.getfield 150, 3) := by decide +kernel
theorem d_O_may_62 : decode prog_1_method_13_code 62 = .ok (.invokevirtual 111, 3) := by decide +kernel
theorem d_O_may_65 : decode prog_1_method_13_code 65 = .ok (.istore_n 3, 1) := by decide +kernel
theorem d_O_may_66 : decode prog_1_method_13_code 66 = .ok (.aload_n 2, 1) := by decide +kernel
theorem d_O_may_67 : decode prog_1_method_13_code 67 = .ok (.getfield 144, 3) := by decide +kernel
theorem d_O_may_70 : decode prog_1_method_13_code 70 = .ok (.bipush 7, 2) := by decide +kernel
theorem d_O_may_72 : decode prog_1_method_13_code 72 = .ok (.if_icmp .ne 16, 3) := by decide +kernel
theorem d_O_may_75 : decode prog_1_method_13_code 75 = .ok (.aload_n 0, 1) := by decide +kernel
theorem d_O_may_76 : decode prog_1_method_13_code 76 = .ok (.getfield 12, 3) := by decide +kernel
theorem d_O_may_79 : decode prog_1_method_13_code 79 = .ok (.iload_n 3, 1) := by decide +kernel
theorem d_O_may_80 : decode prog_1_method_13_code 80 = .ok (.aload_n 2, 1) := by decide +kernel
theorem d_O_may_81 : decode prog_1_method_13_code 81 = .ok (.getfield 153, 3) := by decide +kernel
theorem d_O_may_84 : decode prog_1_method_13_code 84 = .ok (.invokevirtual 156, 3) := by decide +kernel
theorem d_O_may_87 : decode prog_1_method_13_code 87 = .ok (.ireturn, 1) := by decide +kernel
theorem d_O_may_88 : decode prog_1_method_13_code 88 = .ok (.iload_n 3, 1) := by decide +kernel
theorem d_O_may_89 : decode prog_1_method_13_code 89 = .ok (.aload_n 0, 1) := by decide +kernel
theorem d_O_may_90 : decode prog_1_method_13_code 90 = .ok (.getfield 12, 3) := by decide +kernel
theorem d_O_may_93 : decode prog_1_method_13_code 93 = .ok (.getfield 159, 3) := by decide +kernel
theorem d_O_may_96 : decode prog_1_method_13_code 96 = .ok (.aload_n 2, 1) := by decide +kernel
theorem d_O_may_97 : decode prog_1_method_13_code 97 = .ok (.getfield 153, 3) := by decide +kernel
theorem d_O_may_100 : decode prog_1_method_13_code 100 = .ok (.iaload, 1) := by decide +kernel
theorem d_O_may_101 : decode prog_1_method_13_code 101 = .ok (.iconst (-1), 1) := by decide +kernel
theorem d_O_may_102 : decode prog_1_method_13_code 102 = .ok (.ixor, 1) := by decide +kernel
theorem d_O_may_103 : decode prog_1_method_13_code 103 = .ok (.iand, 1) := by decide +kernel
theorem d_O_may_104 : decode prog_1_method_13_code 104 = .ok (.ireturn, 1) := by decide +kernel
theorem d_O_alias_0 : decode prog_1_method_14_code 0 = .ok (.aload_n 0, 1) := by decide +kernel
theorem d_O_alias_1 : decode prog_1_method_14_code 1 = .ok (.getfield 12, 3) := by decide +kernel
theorem d_O_alias_4 : decode prog_1_method_14_code 4 = .ok (.iload_n 1, 1) := by decide +kernel
theorem d_O_alias_5 : decode prog_1_method_14_code 5 = .ok (.iload_n 2, 1) := by decide +kernel
theorem d_O_alias_6 : decode prog_1_method_14_code 6 = .ok (.invokevirtual 101, 3) := by decide +kernel
theorem d_O_alias_9 : decode prog_1_method_14_code 9 = .ok (.ifCond .eq 16, 3) := by decide +kernel
theorem d_O_alias_12 : decode prog_1_method_14_code 12 = .ok (.aload_n 0, 1) := by decide +kernel
theorem d_O_alias_13 : decode prog_1_method_14_code 13 = .ok (.getfield 12, 3) := by decide +kernel
theorem d_O_alias_16 : decode prog_1_method_14_code 16 = .ok (.iload_n 3, 1) := by decide +kernel
theorem d_O_alias_17 : decode prog_1_method_14_code 17 = .ok (.iload 4, 2) := by decide +kernel
theorem d_O_alias_19 : decode prog_1_method_14_code 19 = .ok (.invokevirtual 101, 3) := by decide +kernel
theorem d_O_alias_22 : decode prog_1_method_14_code 22 = .ok (.ifCond .ne 5, 3) := by decide +kernel
theorem d_O_alias_25 : decode prog_1_method_14_code 25 = .ok (.iconst (-1), 1) := by decide +kernel
theorem d_O_alias_26 : decode prog_1_method_14_code 26 = .ok (.ireturn, 1) := by decide +kernel
theorem d_O_alias_27 : decode prog_1_method_14_code 27 = .ok (.aload_n 0, 1) := by decide +kernel
theorem d_O_alias_28 : decode prog_1_method_14_code 28 = .ok (.getfield 21, 3) := by decide +kernel
theorem d_O_alias_31 : decode prog_1_method_14_code 31 = .ok (.invokevirtual 108, 3) := by decide +kernel
theorem d_O_alias_34 : decode prog_1_method_14_code 34 = .ok (.aload_n 0, 1) := by decide +kernel
theorem d_O_alias_35 : decode prog_1_method_14_code 35 = .ok (.getfield 21, 3) := by decide +kernel
theorem d_O_alias_38 : decode prog_1_method_14_code 38 = .ok (.iload_n 1, 1) := by decide +kernel
theorem d_O_alias_39 : decode prog_1_method_14_code 39 = .ok (.iload_n 2, 1) := by decide +kernel
theorem d_O_alias_40 : decode prog_1_method_14_code 40 = .ok (.invokevirtual 111, 3) := by decide +kernel
theorem d_O_alias_43 : decode prog_1_method_14_code 43 = .ok (.aload_n 0, 1) := by decide +kernel
theorem d_O_alias_44 : decode prog_1_method_14_code 44 = .ok (.getfield 21, 3) := by decide +kernel
theorem d_O_alias_47 : decode prog_1_method_14_code 47 = .ok (.iload_n 3, 1) := by decide +kernel
theorem d_O_alias_48 : decode prog_1_method_14_code 48 = .ok (.iload 4, 2) := by decide +kernel
theorem d_O_alias_50 : decode prog_1_method_14_code 50 = .ok (.invokevirtual 111, 3) := by decide +kernel
theorem d_O_alias_53 : decode prog_1_method_14_code 53 = .ok (.iand, 1) := by decide +kernel
theorem d_O_alias_54 : decode prog_1_method_14_code 54 = .ok (.istore 5, 2) := by decide +kernel
theorem d_O_alias_56 : decode prog_1_method_14_code 56 = .ok (.iload 5, 2) := by decide +kernel
theorem d_O_alias_58 : decode prog_1_method_14_code 58 = .ok (.ifCond .eq 7, 3) := by decide +kernel
theorem d_O_alias_61 : decode prog_1_method_14_code 61 = .ok (.iconst 1, 1) := by decide +kernel
theorem d_O_alias_62 : decode prog_1_method_14_code 62 = .ok (.goto 4, 3) := by decide +kernel
theorem d_O_alias_65 : decode prog_1_method_14_code 65 = .ok (.iconst 0, 1) := by decide +kernel
theorem d_O_alias_66 : decode prog_1_method_14_code 66 = .ok (.ireturn, 1) := by decide +kernel
theorem d_O_rounds_0 : decode prog_1_method_15_code 0 = .ok (.aload_n 0, 1) := by decide +kernel
theorem d_O_rounds_1 : decode prog_1_method_15_code 1 = .ok (.getfield 21, 3) := by decide +kernel
theorem d_O_rounds_4 : decode prog_1_method_15_code 4 = .ok (.invokevirtual 108, 3) := by decide +kernel
theorem d_O_rounds_7 : decode prog_1_method_15_code 7 = .ok (.aload_n 0, 1) := by decide +kernel
theorem d_O_rounds_8 : decode prog_1_method_15_code 8 = .ok (.getfield 21, 3) := by decide +kernel
theorem d_O_rounds_11 : decode prog_1_method_15_code 11 = .ok (.getfield 163, 3) := by decide +kernel
theorem d_O_rounds_14 : decode prog_1_method_15_code 14 = .ok (.ireturn, 1) := by decide +kernel
theorem d_O_when_0 : decode prog_1_method_16_code 0 = .ok (.aload_n 0, 1) := by decide +kernel
theorem d_O_when_1 : decode prog_1_method_16_code 1 = .ok (.getfield 12, 3) := by decide +kernel
theorem d_O_when_4 : decode prog_1_method_16_code 4 = .ok (.iload_n 1, 1) := by decide +kernel
theorem d_O_when_5 : decode prog_1_method_16_code 5 = .ok (.iload_n 2, 1) := by decide +kernel
theorem d_O_when_6 : decode prog_1_method_16_code 6 = .ok (.invokevirtual 101, 3) := by decide +kernel
theorem d_O_when_9 : decode prog_1_method_16_code 9 = .ok (.ifCond .eq 14, 3) := by decide +kernel
theorem d_O_when_12 : decode prog_1_method_16_code 12 = .ok (.aload_n 0, 1) := by decide +kernel
theorem d_O_when_13 : decode prog_1_method_16_code 13 = .ok (.getfield 12, 3) := by decide +kernel
theorem d_O_when_16 : decode prog_1_method_16_code 16 = .ok (.iload_n 3, 1) := by decide +kernel
theorem d_O_when_17 : decode prog_1_method_16_code 17 = .ok (.invokevirtual 120, 3) := by decide +kernel
theorem d_O_when_20 : decode prog_1_method_16_code 20 = .ok (.ifCond .ne 5, 3) := by decide +kernel
theorem d_O_when_23 : decode prog_1_method_16_code 23 = .ok (.iconst (-1), 1) := by decide +kernel
theorem d_O_when_24 : decode prog_1_method_16_code 24 = .ok (.ireturn, 1) := by decide +kernel
theorem d_O_when_25 : decode prog_1_method_16_code 25 = .ok (.aload_n 0, 1) := by decide +kernel
theorem d_O_when_26 : decode prog_1_method_16_code 26 = .ok (.getfield 21, 3) := by decide +kernel
theorem d_O_when_29 : decode prog_1_method_16_code 29 = .ok (.invokevirtual 108, 3) := by decide +kernel
theorem d_O_when_32 : decode prog_1_method_16_code 32 = .ok (.aload_n 0, 1) := by decide +kernel
theorem d_O_when_33 : decode prog_1_method_16_code 33 = .ok (.getfield 21, 3) := by decide +kernel
theorem d_O_when_36 : decode prog_1_method_16_code 36 = .ok (.iload_n 1, 1) := by decide +kernel
theorem d_O_when_37 : decode prog_1_method_16_code 37 = .ok (.iload_n 2, 1) := by decide +kernel
theorem d_O_when_38 : decode prog_1_method_16_code 38 = .ok (.iload_n 3, 1) := by decide +kernel
theorem d_O_when_39 : decode prog_1_method_16_code 39 = .ok (.invokevirtual 166, 3) := by decide +kernel
theorem d_O_when_42 : decode prog_1_method_16_code 42 = .ok (.istore 4, 2) := by decide +kernel
theorem d_O_when_44 : decode prog_1_method_16_code 44 = .ok (.iload 4, 2) := by decide +kernel
theorem d_O_when_46 : decode prog_1_method_16_code 46 = .ok (.ifCond .ne 8, 3) := by decide +kernel
theorem d_O_when_49 : decode prog_1_method_16_code 49 = .ok (.bipush (-3), 2) := by decide +kernel
theorem d_O_when_51 : decode prog_1_method_16_code 51 = .ok (.goto 5, 3) := by decide +kernel
theorem d_O_when_54 : decode prog_1_method_16_code 54 = .ok (.iload 4, 2) := by decide +kernel
theorem d_O_when_56 : decode prog_1_method_16_code 56 = .ok (.ireturn, 1) := by decide +kernel
theorem d_O_run_0 : decode prog_1_method_17_code 0 = .ok (.iload_n 2, 1) := by decide +kernel
theorem d_O_run_1 : decode prog_1_method_17_code 1 = .ok (.ifCond .lt 10, 3) := by decide +kernel
theorem d_O_run_4 : decode prog_1_method_17_code 4 = .ok (.iload_n 2, 1) := by decide +kernel
theorem d_O_run_5 : decode prog_1_method_17_code 5 = .ok (.sipush 300, 3) := by decide +kernel
theorem d_O_run_8 : decode prog_1_method_17_code 8 = .ok (.if_icmp .le 6, 3) := by decide +kernel
theorem d_O_run_11 : decode prog_1_method_17_code 11 = .ok (.bipush (-2), 2) := by decide +kernel
theorem d_O_run_13 : decode prog_1_method_17_code 13 = .ok (.ireturn, 1) := by decide +kernel
theorem d_O_run_14 : decode prog_1_method_17_code 14 = .ok (.aload_n 0, 1) := by decide +kernel
theorem d_O_run_15 : decode prog_1_method_17_code 15 = .ok (.getfield 12, 3) := by decide +kernel
theorem d_O_run_18 : decode prog_1_method_17_code 18 = .ok (.getfield 62, 3) := by decide +kernel
theorem d_O_run_21 : decode prog_1_method_17_code 21 = .ok (.ifCond .ne 6, 3) := by decide +kernel
theorem d_O_run_24 : decode prog_1_method_17_code 24 = .ok (.bipush (-3), 2) := by decide +kernel
theorem d_O_run_26 : decode prog_1_method_17_code 26 = .ok (.ireturn, 1) := by decide +kernel
theorem d_O_run_27 : decode prog_1_method_17_code 27 = .ok (.aload_n 0, 1) := by decide +kernel
theorem d_O_run_28 : decode prog_1_method_17_code 28 = .ok (.getfield 21, 3) := by decide +kernel
theorem d_O_run_31 : decode prog_1_method_17_code 31 = .ok (.invokevirtual 108, 3) := by decide +kernel
theorem d_O_run_34 : decode prog_1_method_17_code 34 = .ok (.aload_n 0, 1) := by decide +kernel
theorem d_O_run_35 : decode prog_1_method_17_code 35 = .ok (.getfield 30, 3) := by decide +kernel
theorem d_O_run_38 : decode prog_1_method_17_code 38 = .ok (.iload_n 1, 1) := by decide +kernel
theorem d_O_run_39 : decode prog_1_method_17_code 39 = .ok (.iload_n 2, 1) := by decide +kernel
theorem d_O_run_40 : decode prog_1_method_17_code 40 = .ok (.invokevirtual 170, 3) := by decide +kernel
theorem d_O_run_43 : decode prog_1_method_17_code 43 = .ok (.ifCond .eq 7, 3) := by decide +kernel
theorem d_O_run_46 : decode prog_1_method_17_code 46 = .ok (.iconst 1, 1) := by decide +kernel
theorem d_O_run_47 : decode prog_1_method_17_code 47 = .ok (.goto 4, 3) := by decide +kernel
theorem d_O_run_50 : decode prog_1_method_17_code 50 = .ok (.iconst 0, 1) := by decide +kernel
theorem d_O_run_51 : decode prog_1_method_17_code 51 = .ok (.ireturn, 1) := by decide +kernel
theorem d_O_met_0 : decode prog_1_method_18_code 0 = .ok (.aload_n 0, 1) := by decide +kernel
theorem d_O_met_1 : decode prog_1_method_18_code 1 = .ok (.getfield 12, 3) := by decide +kernel
theorem d_O_met_4 : decode prog_1_method_18_code 4 = .ok (.iload_n 1, 1) := by decide +kernel
theorem d_O_met_5 : decode prog_1_method_18_code 5 = .ok (.iload_n 2, 1) := by decide +kernel
theorem d_O_met_6 : decode prog_1_method_18_code 6 = .ok (.invokevirtual 101, 3) := by decide +kernel
theorem d_O_met_9 : decode prog_1_method_18_code 9 = .ok (.ifCond .ne 5, 3) := by decide +kernel
theorem d_O_met_12 : decode prog_1_method_18_code 12 = .ok (.iconst (-1), 1) := by decide +kernel
theorem d_O_met_13 : decode prog_1_method_18_code 13 = .ok (.ireturn, 1) := by decide +kernel
theorem d_O_met_14 : decode prog_1_method_18_code 14 = .ok (.aload_n 0, 1) := by decide +kernel
theorem d_O_met_15 : decode prog_1_method_18_code 15 = .ok (.getfield 30, 3) := by decide +kernel
theorem d_O_met_18 : decode prog_1_method_18_code 18 = .ok (.getfield 173, 3) := by decide +kernel
theorem d_O_met_21 : decode prog_1_method_18_code 21 = .ok (.iload_n 1, 1) := by decide +kernel
theorem d_O_met_22 : decode prog_1_method_18_code 22 = .ok (.bipush 6, 2) := by decide +kernel
theorem d_O_met_24 : decode prog_1_method_18_code 24 = .ok (.imul, 1) := by decide +kernel
theorem d_O_met_25 : decode prog_1_method_18_code 25 = .ok (.iload_n 2, 1) := by decide +kernel
theorem d_O_met_26 : decode prog_1_method_18_code 26 = .ok (.iadd, 1) := by decide +kernel
theorem d_O_met_27 : decode prog_1_method_18_code 27 = .ok (.iaload, 1) := by decide +kernel
theorem d_O_met_28 : decode prog_1_method_18_code 28 = .ok (.ireturn, 1) := by decide +kernel
theorem d_O_ran_0 : decode prog_1_method_19_code 0 = .ok (.iload_n 1, 1) := by decide +kernel
theorem d_O_ran_1 : decode prog_1_method_19_code 1 = .ok (.tableswitch 51 0 2 #[27, 35, 43], 27) := by decide +kernel
theorem d_O_ran_28 : decode prog_1_method_19_code 28 = .ok (.aload_n 0, 1) := by decide +kernel
theorem d_O_ran_29 : decode prog_1_method_19_code 29 = .ok (.getfield 30, 3) := by decide +kernel
theorem d_O_ran_32 : decode prog_1_method_19_code 32 = .ok (.getfield 176, 3) := by decide +kernel
theorem d_O_ran_35 : decode prog_1_method_19_code 35 = .ok (.ireturn, 1) := by decide +kernel
theorem d_O_ran_36 : decode prog_1_method_19_code 36 = .ok (.aload_n 0, 1) := by decide +kernel
theorem d_O_ran_37 : decode prog_1_method_19_code 37 = .ok (.getfield 30, 3) := by decide +kernel
theorem d_O_ran_40 : decode prog_1_method_19_code 40 = .ok (.getfield 179, 3) := by decide +kernel
theorem d_O_ran_43 : decode prog_1_method_19_code 43 = .ok (.ireturn, 1) := by decide +kernel
theorem d_O_ran_44 : decode prog_1_method_19_code 44 = .ok (.aload_n 0, 1) := by decide +kernel
theorem d_O_ran_45 : decode prog_1_method_19_code 45 = .ok (.getfield 30, 3) := by decide +kernel
theorem d_O_ran_48 : decode prog_1_method_19_code 48 = .ok (.getfield 182, 3) := by decide +kernel
theorem d_O_ran_51 : decode prog_1_method_19_code 51 = .ok (.ireturn, 1) := by decide +kernel
theorem d_O_ran_52 : decode prog_1_method_19_code 52 = .ok (.bipush (-2), 2) := by decide +kernel
theorem d_O_ran_54 : decode prog_1_method_19_code 54 = .ok (.ireturn, 1) := by decide +kernel
theorem d_O_forgetAnswers_0 : decode prog_1_method_20_code 0 = .ok (.aload_n 0, 1) := by decide +kernel
theorem d_O_forgetAnswers_1 : decode prog_1_method_20_code 1 = .ok (.getfield 21, 3) := by decide +kernel
theorem d_O_forgetAnswers_4 : decode prog_1_method_20_code 4 = .ok (.iconst 0, 1) := by decide +kernel
theorem d_O_forgetAnswers_5 : decode prog_1_method_20_code 5 = .ok (.putfield 185, 3) := by decide +kernel
theorem d_O_forgetAnswers_8 : decode prog_1_method_20_code 8 = .ok (.aload_n 0, 1) := by decide +kernel
theorem d_O_forgetAnswers_9 : decode prog_1_method_20_code 9 = .ok (.getfield 30, 3) := by decide +kernel
theorem d_O_forgetAnswers_12 : decode prog_1_method_20_code 12 = .ok (.invokevirtual 188, 3) := by decide +kernel
theorem d_O_forgetAnswers_15 : decode prog_1_method_20_code 15 = .ok (.return_, 1) := by decide +kernel
theorem d_O_isName_0 : decode prog_1_method_21_code 0 = .ok (.iload_n 0, 1) := by decide +kernel
theorem d_O_isName_1 : decode prog_1_method_21_code 1 = .ok (.ifCond .lt 13, 3) := by decide +kernel
theorem d_O_isName_4 : decode prog_1_method_21_code 4 = .ok (.iload_n 0, 1) := by decide +kernel
theorem d_O_isName_5 : decode prog_1_method_21_code 5 = .ok (.bipush 6, 2) := by decide +kernel
theorem d_O_isName_7 : decode prog_1_method_21_code 7 = .ok (.if_icmp .ge 7, 3) := by decide +kernel
theorem d_O_isName_10 : decode prog_1_method_21_code 10 = .ok (.iconst 1, 1) := by decide +kernel
theorem d_O_isName_11 : decode prog_1_method_21_code 11 = .ok (.goto 4, 3) := by decide +kernel
theorem d_O_isName_14 : decode prog_1_method_21_code 14 = .ok (.iconst 0, 1) := by decide +kernel
theorem d_O_isName_15 : decode prog_1_method_21_code 15 = .ok (.ireturn, 1) := by decide +kernel
theorem d_O_isStatic_0 : decode prog_1_method_22_code 0 = .ok (.iload_n 0, 1) := by decide +kernel
theorem d_O_isStatic_1 : decode prog_1_method_22_code 1 = .ok (.ifCond .lt 12, 3) := by decide +kernel
theorem d_O_isStatic_4 : decode prog_1_method_22_code 4 = .ok (.iload_n 0, 1) := by decide +kernel
theorem d_O_isStatic_5 : decode prog_1_method_22_code 5 = .ok (.iconst 4, 1) := by decide +kernel
theorem d_O_isStatic_6 : decode prog_1_method_22_code 6 = .ok (.if_icmp .ge 7, 3) := by decide +kernel
theorem d_O_isStatic_9 : decode prog_1_method_22_code 9 = .ok (.iconst 1, 1) := by decide +kernel
theorem d_O_isStatic_10 : decode prog_1_method_22_code 10 = .ok (.goto 4, 3) := by decide +kernel
theorem d_O_isStatic_13 : decode prog_1_method_22_code 13 = .ok (.iconst 0, 1) := by decide +kernel
theorem d_O_isStatic_14 : decode prog_1_method_22_code 14 = .ok (.ireturn, 1) := by decide +kernel
theorem d_O_isSignature_0 : decode prog_1_method_23_code 0 = .ok (.iload_n 0, 1) := by decide +kernel
theorem d_O_isSignature_1 : decode prog_1_method_23_code 1 = .ok (.ifCond .lt 12, 3) := by decide +kernel
theorem d_O_isSignature_4 : decode prog_1_method_23_code 4 = .ok (.iload_n 0, 1) := by decide +kernel
theorem d_O_isSignature_5 : decode prog_1_method_23_code 5 = .ok (.iconst 4, 1) := by decide +kernel
theorem d_O_isSignature_6 : decode prog_1_method_23_code 6 = .ok (.if_icmp .ge 7, 3) := by decide +kernel
theorem d_O_isSignature_9 : decode prog_1_method_23_code 9 = .ok (.iconst 1, 1) := by decide +kernel
theorem d_O_isSignature_10 : decode prog_1_method_23_code 10 = .ok (.goto 4, 3) := by decide +kernel
theorem d_O_isSignature_13 : decode prog_1_method_23_code 13 = .ok (.iconst 0, 1) := by decide +kernel
theorem d_O_isSignature_14 : decode prog_1_method_23_code 14 = .ok (.ireturn, 1) := by decide +kernel
theorem d_O_hasBit_0 : decode prog_1_method_24_code 0 = .ok (.iload_n 0, 1) := by decide +kernel
theorem d_O_hasBit_1 : decode prog_1_method_24_code 1 = .ok (.iload_n 1, 1) := by decide +kernel
theorem d_O_hasBit_2 : decode prog_1_method_24_code 2 = .ok (.iushr, 1) := by decide +kernel
theorem d_O_hasBit_3 : decode prog_1_method_24_code 3 = .ok (.iconst 1, 1) := by decide +kernel
theorem d_O_hasBit_4 : decode prog_1_method_24_code 4 = .ok (.iand, 1) := by decide +kernel
theorem d_O_hasBit_5 : decode prog_1_method_24_code 5 = .ok (.ifCond .eq 7, 3) := by decide +kernel
theorem d_O_hasBit_8 : decode prog_1_method_24_code 8 = .ok (.iconst 1, 1) := by decide +kernel
theorem d_O_hasBit_9 : decode prog_1_method_24_code 9 = .ok (.goto 4, 3) := by decide +kernel
theorem d_O_hasBit_12 : decode prog_1_method_24_code 12 = .ok (.iconst 0, 1) := by decide +kernel
theorem d_O_hasBit_13 : decode prog_1_method_24_code 13 = .ok (.ireturn, 1) := by decide +kernel
theorem d_O_namesOf_0 : decode prog_1_method_25_code 0 = .ok (.iload_n 0, 1) := by decide +kernel
theorem d_O_namesOf_1 : decode prog_1_method_25_code 1 = .ok (.bipush 21, 2) := by decide +kernel
theorem d_O_namesOf_3 : decode prog_1_method_25_code 3 = .ok (.imul, 1) := by decide +kernel
theorem d_O_namesOf_4 : decode prog_1_method_25_code 4 = .ok (.iload_n 1, 1) := by decide +kernel
theorem d_O_namesOf_5 : decode prog_1_method_25_code 5 = .ok (.iadd, 1) := by decide +kernel
theorem d_O_namesOf_6 : decode prog_1_method_25_code 6 = .ok (.bipush 6, 2) := by decide +kernel
theorem d_O_namesOf_8 : decode prog_1_method_25_code 8 = .ok (.imul, 1) := by decide +kernel
theorem d_O_namesOf_9 : decode prog_1_method_25_code 9 = .ok (.ireturn, 1) := by decide +kernel
theorem d_O_slotPlace_0 : decode prog_1_method_26_code 0 = .ok (.sipush 1260, 3) := by decide +kernel
theorem d_O_slotPlace_3 : decode prog_1_method_26_code 3 = .ok (.iload_n 0, 1) := by decide +kernel
theorem d_O_slotPlace_4 : decode prog_1_method_26_code 4 = .ok (.bipush 9, 2) := by decide +kernel
theorem d_O_slotPlace_6 : decode prog_1_method_26_code 6 = .ok (.imul, 1) := by decide +kernel
theorem d_O_slotPlace_7 : decode prog_1_method_26_code 7 = .ok (.iadd, 1) := by decide +kernel
theorem d_O_slotPlace_8 : decode prog_1_method_26_code 8 = .ok (.iload_n 1, 1) := by decide +kernel
theorem d_O_slotPlace_9 : decode prog_1_method_26_code 9 = .ok (.iadd, 1) := by decide +kernel
theorem d_O_slotPlace_10 : decode prog_1_method_26_code 10 = .ok (.ireturn, 1) := by decide +kernel
theorem d_M_isClass_0 : decode prog_7_method_2_code 0 = .ok (.iload_n 1, 1) := by decide +kernel
theorem d_M_isClass_1 : decode prog_7_method_2_code 1 = .ok (.ifCond .lt 15, 3) := by decide +kernel
theorem d_M_isClass_4 : decode prog_7_method_2_code 4 = .ok (.iload_n 1, 1) := by decide +kernel
theorem d_M_isClass_5 : decode prog_7_method_2_code 5 = .ok (.aload_n 0, 1) := by decide +kernel
theorem d_M_isClass_6 : decode prog_7_method_2_code 6 = .ok (.getfield 109, 3) := by decide +kernel
theorem d_M_isClass_9 : decode prog_7_method_2_code 9 = .ok (.if_icmp .ge 7, 3) := by decide +kernel
theorem d_M_isClass_12 : decode prog_7_method_2_code 12 = .ok (.iconst 1, 1) := by decide +kernel
theorem d_M_isClass_13 : decode prog_7_method_2_code 13 = .ok (.goto 4, 3) := by decide +kernel
theorem d_M_isClass_16 : decode prog_7_method_2_code 16 = .ok (.iconst 0, 1) := by decide +kernel
theorem d_M_isClass_17 : decode prog_7_method_2_code 17 = .ok (.ireturn, 1) := by decide +kernel
theorem d_M_isField_0 : decode prog_7_method_3_code 0 = .ok (.iload_n 1, 1) := by decide +kernel
theorem d_M_isField_1 : decode prog_7_method_3_code 1 = .ok (.ifCond .lt 15, 3) := by decide +kernel
theorem d_M_isField_4 : decode prog_7_method_3_code 4 = .ok (.iload_n 1, 1) := by decide +kernel
theorem d_M_isField_5 : decode prog_7_method_3_code 5 = .ok (.aload_n 0, 1) := by decide +kernel
theorem d_M_isField_6 : decode prog_7_method_3_code 6 = .ok (.getfield 113, 3) := by decide +kernel
theorem d_M_isField_9 : decode prog_7_method_3_code 9 = .ok (.if_icmp .ge 7, 3) := by decide +kernel
theorem d_M_isField_12 : decode prog_7_method_3_code 12 = .ok (.iconst 1, 1) := by decide +kernel
theorem d_M_isField_13 : decode prog_7_method_3_code 13 = .ok (.goto 4, 3) := by decide +kernel
theorem d_M_isField_16 : decode prog_7_method_3_code 16 = .ok (.iconst 0, 1) := by decide +kernel
theorem d_M_isField_17 : decode prog_7_method_3_code 17 = .ok (.ireturn, 1) := by decide +kernel
theorem d_M_isMethod_0 : decode prog_7_method_4_code 0 = .ok (.iload_n 1, 1) := by decide +kernel
theorem d_M_isMethod_1 : decode prog_7_method_4_code 1 = .ok (.ifCond .lt 15, 3) := by decide +kernel
theorem d_M_isMethod_4 : decode prog_7_method_4_code 4 = .ok (.iload_n 1, 1) := by decide +kernel
theorem d_M_isMethod_5 : decode prog_7_method_4_code 5 = .ok (.aload_n 0, 1) := by decide +kernel
theorem d_M_isMethod_6 : decode prog_7_method_4_code 6 = .ok (.getfield 116, 3) := by decide +kernel
theorem d_M_isMethod_9 : decode prog_7_method_4_code 9 = .ok (.if_icmp .ge 7, 3) := by decide +kernel
theorem d_M_isMethod_12 : decode prog_7_method_4_code 12 = .ok (.iconst 1, 1) := by decide +kernel
theorem d_M_isMethod_13 : decode prog_7_method_4_code 13 = .ok (.goto 4, 3) := by decide +kernel
theorem d_M_isMethod_16 : decode prog_7_method_4_code 16 = .ok (.iconst 0, 1) := by decide +kernel
theorem d_M_isMethod_17 : decode prog_7_method_4_code 17 = .ok (.ireturn, 1) := by decide +kernel
theorem d_M_isName_0 : decode prog_7_method_5_code 0 = .ok (.iload_n 0, 1) := by decide +kernel
theorem d_M_isName_1 : decode prog_7_method_5_code 1 = .ok (.ifCond .lt 13, 3) := by decide +kernel
theorem d_M_isName_4 : decode prog_7_method_5_code 4 = .ok (.iload_n 0, 1) := by decide +kernel
theorem d_M_isName_5 : decode prog_7_method_5_code 5 = .ok (.bipush 6, 2) := by decide +kernel
theorem d_M_isName_7 : decode prog_7_method_5_code 7 = .ok (.if_icmp .ge 7, 3) := by decide +kernel
theorem d_M_isName_10 : decode prog_7_method_5_code 10 = .ok (.iconst 1, 1) := by decide +kernel
theorem d_M_isName_11 : decode prog_7_method_5_code 11 = .ok (.goto 4, 3) := by decide +kernel
theorem d_M_isName_14 : decode prog_7_method_5_code 14 = .ok (.iconst 0, 1) := by decide +kernel
theorem d_M_isName_15 : decode prog_7_method_5_code 15 = .ok (.ireturn, 1) := by decide +kernel
theorem d_M_isStatic_0 : decode prog_7_method_6_code 0 = .ok (.iload_n 0, 1) := by decide +kernel
theorem d_M_isStatic_1 : decode prog_7_method_6_code 1 = .ok (.ifCond .lt 12, 3) := by decide +kernel
theorem d_M_isStatic_4 : decode prog_7_method_6_code 4 = .ok (.iload_n 0, 1) := by decide +kernel
theorem d_M_isStatic_5 : decode prog_7_method_6_code 5 = .ok (.iconst 4, 1) := by decide +kernel
theorem d_M_isStatic_6 : decode prog_7_method_6_code 6 = .ok (.if_icmp .ge 7, 3) := by decide +kernel
theorem d_M_isStatic_9 : decode prog_7_method_6_code 9 = .ok (.iconst 1, 1) := by decide +kernel
theorem d_M_isStatic_10 : decode prog_7_method_6_code 10 = .ok (.goto 4, 3) := by decide +kernel
theorem d_M_isStatic_13 : decode prog_7_method_6_code 13 = .ok (.iconst 0, 1) := by decide +kernel
theorem d_M_isStatic_14 : decode prog_7_method_6_code 14 = .ok (.ireturn, 1) := by decide +kernel
theorem d_M_isUnder_0 : decode prog_7_method_7_code 0 = .ok (.iload_n 1, 1) := by decide +kernel
theorem d_M_isUnder_1 : decode prog_7_method_7_code 1 = .ok (.istore_n 3, 1) := by decide +kernel
theorem d_M_isUnder_2 : decode prog_7_method_7_code 2 = .ok (.iload_n 3, 1) := by decide +kernel
theorem d_M_isUnder_3 : decode prog_7_method_7_code 3 = .ok (.ifCond .lt 18, 3) := by decide +kernel
theorem d_M_isUnder_6 : decode prog_7_method_7_code 6 = .ok (.iload_n 3, 1) := by decide +kernel
theorem d_M_isUnder_7 : decode prog_7_method_7_code 7 = .ok (.iload_n 2, 1) := by decide +kernel
theorem d_M_isUnder_8 : decode prog_7_method_7_code 8 = .ok (.if_icmp .eq 13, 3) := by decide +kernel
theorem d_M_isUnder_11 : decode prog_7_method_7_code 11 = .ok (.aload_n 0, 1) := by decide +kernel
theorem d_M_isUnder_12 : decode prog_7_method_7_code 12 = .ok (.getfield 7, 3) := by decide +kernel
theorem d_M_isUnder_15 : decode prog_7_method_7_code 15 = .ok (.iload_n 3, 1) := by decide +kernel
theorem d_M_isUnder_16 : decode prog_7_method_7_code 16 = .ok (.iaload, 1) := by decide +kernel
theorem d_M_isUnder_17 : decode prog_7_method_7_code 17 = .ok (.istore_n 3, 1) := by decide +kernel
theorem d_M_isUnder_18 : decode prog_7_method_7_code 18 = .ok (.goto (-16), 3) := by decide +kernel
theorem d_M_isUnder_21 : decode prog_7_method_7_code 21 = .ok (.iload_n 3, 1) := by decide +kernel
theorem d_M_isUnder_22 : decode prog_7_method_7_code 22 = .ok (.ifCond .lt 7, 3) := by decide +kernel
theorem d_M_isUnder_25 : decode prog_7_method_7_code 25 = .ok (.iconst 1, 1) := by decide +kernel
theorem d_M_isUnder_26 : decode prog_7_method_7_code 26 = .ok (.goto 4, 3) := by decide +kernel
theorem d_M_isUnder_29 : decode prog_7_method_7_code 29 = .ok (.iconst 0, 1) := by decide +kernel
theorem d_M_isUnder_30 : decode prog_7_method_7_code 30 = .ok (.ireturn, 1) := by decide +kernel
theorem d_M_hasField_0 : decode prog_7_method_8_code 0 = .ok (.aload_n 0, 1) := by decide +kernel
theorem d_M_hasField_1 : decode prog_7_method_8_code 1 = .ok (.aload_n 0, 1) := by decide +kernel
theorem d_M_hasField_2 : decode prog_7_method_8_code 2 = .ok (.getfield 46, 3) := by decide +kernel
theorem d_M_hasField_5 : decode prog_7_method_8_code 5 = .ok (.iload_n 1, 1) := by decide +kernel
theorem d_M_hasField_6 : decode prog_7_method_8_code 6 = .ok (.iaload, 1) := by decide +kernel
theorem d_M_hasField_7 : decode prog_7_method_8_code 7 = .ok (.aload_n 0, 1) := by decide +kernel
theorem d_M_hasField_8 : decode prog_7_method_8_code 8 = .ok (.getfield 13, 3) := by decide +kernel
theorem d_M_hasField_11 : decode prog_7_method_8_code 11 = .ok (.iload_n 2, 1) := by decide +kernel
theorem d_M_hasField_12 : decode prog_7_method_8_code 12 = .ok (.iaload, 1) := by decide +kernel
theorem d_M_hasField_13 : decode prog_7_method_8_code 13 = .ok (.invokevirtual 119, 3) := by decide +kernel
theorem d_M_hasField_16 : decode prog_7_method_8_code 16 = .ok (.ireturn, 1) := by decide +kernel
theorem d_M_methodWith_0 : decode prog_7_method_9_code 0 = .ok (.iconst 0, 1) := by decide +kernel
theorem d_M_methodWith_1 : decode prog_7_method_9_code 1 = .ok (.istore_n 3, 1) := by decide +kernel
theorem d_M_methodWith_2 : decode prog_7_method_9_code 2 = .ok (.iload_n 3, 1) := by decide +kernel
theorem d_M_methodWith_3 : decode prog_7_method_9_code 3 = .ok (.aload_n 0, 1) := by decide +kernel
theorem d_M_methodWith_4 : decode prog_7_method_9_code 4 = .ok (.getfield 116, 3) := by decide +kernel
theorem d_M_methodWith_7 : decode prog_7_method_9_code 7 = .ok (.if_icmp .ge 31, 3) := by decide +kernel
theorem d_M_methodWith_10 : decode prog_7_method_9_code 10 = .ok (.aload_n 0, 1) := by decide +kernel
theorem d_M_methodWith_11 : decode prog_7_method_9_code 11 = .ok (.getfield 16, 3) := by decide +kernel
theorem d_M_methodWith_14 : decode prog_7_method_9_code 14 = .ok (.iload_n 3, 1) := by decide +kernel
theorem d_M_methodWith_15 : decode prog_7_method_9_code 15 = .ok (.iaload, 1) := by decide +kernel
theorem d_M_methodWith_16 : decode prog_7_method_9_code 16 = .ok (.iload_n 1, 1) := by decide +kernel
theorem d_M_methodWith_17 : decode prog_7_method_9_code 17 = .ok (.if_icmp .ne 15, 3) := by decide +kernel
theorem d_M_methodWith_20 : decode prog_7_method_9_code 20 = .ok (.aload_n 0, 1) := by decide +kernel
theorem d_M_methodWith_21 : decode prog_7_method_9_code 21 = .ok (.getfield 19, 3) := by decide +kernel
theorem d_M_methodWith_24 : decode prog_7_method_9_code 24 = .ok (.iload_n 3, 1) := by decide +kernel
theorem d_M_methodWith_25 : decode prog_7_method_9_code 25 = .ok (.iaload, 1) := by decide +kernel
theorem d_M_methodWith_26 : decode prog_7_method_9_code 26 = .ok (.iload_n 2, 1) := by decide +kernel
theorem d_M_methodWith_27 : decode prog_7_method_9_code 27 = .ok (.if_icmp .ne 5, 3) := by decide +kernel
theorem d_M_methodWith_30 : decode prog_7_method_9_code 30 = .ok (.iload_n 3, 1) := by decide +kernel
theorem d_M_methodWith_31 : decode prog_7_method_9_code 31 = .ok (.ireturn, 1) := by decide +kernel
theorem d_M_methodWith_32 : decode prog_7_method_9_code 32 = .ok (.iinc 3 1, 3) := by decide +kernel
theorem d_M_methodWith_35 : decode prog_7_method_9_code 35 = .ok (.goto (-33), 3) := by decide +kernel
theorem d_M_methodWith_38 : decode prog_7_method_9_code 38 = .ok (.iconst (-1), 1) := by decide +kernel
theorem d_M_methodWith_39 : decode prog_7_method_9_code 39 = .ok (.ireturn, 1) := by decide +kernel
theorem d_M_found_0 : decode prog_7_method_10_code 0 = .ok (.iload_n 1, 1) := by decide +kernel
theorem d_M_found_1 : decode prog_7_method_10_code 1 = .ok (.istore_n 3, 1) := by decide +kernel
theorem d_M_found_2 : decode prog_7_method_10_code 2 = .ok (.iload_n 3, 1) := by decide +kernel
theorem d_M_found_3 : decode prog_7_method_10_code 3 = .ok (.ifCond .lt 29, 3) := by decide +kernel
theorem d_M_found_6 : decode prog_7_method_10_code 6 = .ok (.aload_n 0, 1) := by decide +kernel
theorem d_M_found_7 : decode prog_7_method_10_code 7 = .ok (.iload_n 3, 1) := by decide +kernel
theorem d_M_found_8 : decode prog_7_method_10_code 8 = .ok (.iload_n 2, 1) := by decide +kernel
theorem d_M_found_9 : decode prog_7_method_10_code 9 = .ok (.invokevirtual 123, 3) := by decide +kernel
theorem d_M_found_12 : decode prog_7_method_10_code 12 = .ok (.istore 4, 2) := by decide +kernel
theorem d_M_found_14 : decode prog_7_method_10_code 14 = .ok (.iload 4, 2) := by decide +kernel
theorem d_M_found_16 : decode prog_7_method_10_code 16 = .ok (.ifCond .lt 6, 3) := by decide +kernel
theorem d_M_found_19 : decode prog_7_method_10_code 19 = .ok (.iload 4, 2) := by decide +kernel
theorem d_M_found_21 : decode prog_7_method_10_code 21 = .ok (.ireturn, 1) := by decide +kernel
theorem d_M_found_22 : decode prog_7_method_10_code 22 = .ok (.aload_n 0, 1) := by decide +kernel
theorem d_M_found_23 : decode prog_7_method_10_code 23 = .ok (.getfield 7, 3) := by decide +kernel
theorem d_M_found_26 : decode prog_7_method_10_code 26 = .ok (.iload_n 3, 1) := by decide +kernel
theorem d_M_found_27 : decode prog_7_method_10_code 27 = .ok (.iaload, 1) := by decide +kernel
theorem d_M_found_28 : decode prog_7_method_10_code 28 = .ok (.istore_n 3, 1) := by decide +kernel
theorem d_M_found_29 : decode prog_7_method_10_code 29 = .ok (.goto (-27), 3) := by decide +kernel
theorem d_M_found_32 : decode prog_7_method_10_code 32 = .ok (.iconst (-1), 1) := by decide +kernel
theorem d_M_found_33 : decode prog_7_method_10_code 33 = .ok (.ireturn, 1) := by decide +kernel
theorem d_M_change_0 : decode prog_7_method_11_code 0 = .ok (.aload_n 0, 1) := by decide +kernel
theorem d_M_change_1 : decode prog_7_method_11_code 1 = .ok (.iconst 0, 1) := by decide +kernel
theorem d_M_change_2 : decode prog_7_method_11_code 2 = .ok (.putfield 127, 3) := by decide +kernel
theorem d_M_change_5 : decode prog_7_method_11_code 5 = .ok (.aload_n 0, 1) := by decide +kernel
theorem d_M_change_6 : decode prog_7_method_11_code 6 = .ok (.invokevirtual 131, 3) := by decide +kernel
theorem d_M_change_9 : decode prog_7_method_11_code 9 = .ok (.return_, 1) := by decide +kernel
theorem d_M_cls_0 : decode prog_7_method_12_code 0 = .ok (.iload_n 1, 1) := by decide +kernel
theorem d_M_cls_1 : decode prog_7_method_12_code 1 = .ok (.iconst (-1), 1) := by decide +kernel
theorem d_M_cls_2 : decode prog_7_method_12_code 2 = .ok (.if_icmp .lt 11, 3) := by decide +kernel
theorem d_M_cls_5 : decode prog_7_method_12_code 5 = .ok (.iload_n 1, 1) := by decide +kernel
theorem d_M_cls_6 : decode prog_7_method_12_code 6 = .ok (.aload_n 0, 1) := by decide +kernel
theorem d_M_cls_7 : decode prog_7_method_12_code 7 = .ok (.getfield 109, 3) := by decide +kernel
theorem d_M_cls_10 : decode prog_7_method_12_code 10 = .ok (.if_icmp .lt 5, 3) := by decide +kernel
theorem d_M_cls_13 : decode prog_7_method_12_code 13 = .ok (.iconst (-1), 1) := by decide +kernel
theorem d_M_cls_14 : decode prog_7_method_12_code 14 = .ok (.ireturn, 1) := by decide +kernel
theorem d_M_cls_15 : decode prog_7_method_12_code 15 = .ok (.aload_n 0, 1) := by decide +kernel
theorem d_M_cls_16 : decode prog_7_method_12_code 16 = .ok (.getfield 109, 3) := by decide +kernel
theorem d_M_cls_19 : decode prog_7_method_12_code 19 = .ok (.bipush 8, 2) := by decide +kernel
theorem d_M_cls_21 : decode prog_7_method_12_code 21 = .ok (.if_icmp .ne 6, 3) := by decide +kernel
theorem d_M_cls_24 : decode prog_7_method_12_code 24 = .ok (.bipush (-4), 2) := by decide +kernel
theorem d_M_cls_26 : decode prog_7_method_12_code 26 = .ok (.ireturn, 1) := by decide +kernel
theorem d_M_cls_27 : decode prog_7_method_12_code 27 = .ok (.aload_n 0, 1) := by decide +kernel
theorem d_M_cls_28 : decode prog_7_method_12_code 28 = .ok (.getfield 7, 3) := by decide +kernel
theorem d_M_cls_31 : decode prog_7_method_12_code 31 = .ok (.aload_n 0, 1) := by decide +kernel
theorem d_M_cls_32 : decode prog_7_method_12_code 32 = .ok (.getfield 109, 3) := by decide +kernel
theorem d_M_cls_35 : decode prog_7_method_12_code 35 = .ok (.iload_n 1, 1) := by decide +kernel
theorem d_M_cls_36 : decode prog_7_method_12_code 36 = .ok (.iastore, 1) := by decide +kernel
theorem d_M_cls_37 : decode prog_7_method_12_code 37 = .ok (.aload_n 0, 1) := by decide +kernel
theorem d_M_cls_38 : decode prog_7_method_12_code 38 = .ok (.dup, 1) := by decide +kernel
theorem d_M_cls_39 : decode prog_7_method_12_code 39 = .ok (.getfield 109, 3) := by decide +kernel
theorem d_M_cls_42 : decode prog_7_method_12_code 42 = .ok (.iconst 1, 1) := by decide +kernel
theorem d_M_cls_43 : decode prog_7_method_12_code 43 = .ok (.iadd, 1) := by decide +kernel
theorem d_M_cls_44 : decode prog_7_method_12_code 44 = .ok (.putfield 109, 3) := by decide +kernel
theorem d_M_cls_47 : decode prog_7_method_12_code 47 = .ok (.aload_n 0, 1) := by decide +kernel
theorem d_M_cls_48 : decode prog_7_method_12_code 48 = .ok (.invokevirtual 134, 3) := by decide +kernel
theorem d_M_cls_51 : decode prog_7_method_12_code 51 = .ok (.aload_n 0, 1) := by decide +kernel
theorem d_M_cls_52 : decode prog_7_method_12_code 52 = .ok (.getfield 109, 3) := by decide +kernel
theorem d_M_cls_55 : decode prog_7_method_12_code 55 = .ok (.iconst 1, 1) := by decide +kernel
theorem d_M_cls_56 : decode prog_7_method_12_code 56 = .ok (.isub, 1) := by decide +kernel
theorem d_M_cls_57 : decode prog_7_method_12_code 57 = .ok (.ireturn, 1) := by decide +kernel
theorem r_O_cls_0 {Q : Option mV → mS → Prop} {σ : mS} {x1 : Int32} (h : (x1 = (-1 : Int32) → (((σ 1 0) < (nI 8) → (MU M_O_forgetAnswers [.inr (0, 0)] σ (fun r s1 => r = none ∧ (MU M_P_addClass [.inr (1, 0), .inl x1] s1 (fun r s3 => ∃ r5, r = some (.inl r5) ∧ (Q (some (.inl r5)) s3)))))) ∧ (¬ (σ 1 0) < (nI 8) → (Q (some (.inl (-nI 4))) σ)))) ∧ (¬ x1 = (-1 : Int32) → (MU M_P_hasClass [.inr (1, 0), .inl x1] σ (fun r s7 => ∃ r9, r = some (.inl r9) ∧ ((¬ r9 = (0 : Int32) → (((s7 1 0) < (nI 8) → (MU M_O_forgetAnswers [.inr (0, 0)] s7 (fun r s10 => r = none ∧ (MU M_P_addClass [.inr (1, 0), .inl x1] s10 (fun r s12 => ∃ r14, r = some (.inl r14) ∧ (Q (some (.inl r14)) s12)))))) ∧ (¬ (s7 1 0) < (nI 8) → (Q (some (.inl (-nI 4))) s7)))) ∧ (r9 = (0 : Int32) → (Q (some (.inl (-1 : Int32))) s7))))))) : J M_O_cls Q 0 [some (.inr (0, 0)), some (.inl x1)] [] σ :=
  J_iload_n (i := 1) rfl rfl d_O_cls_0 <|
  J_iconst (v := (-1 : Int32)) d_O_cls_1 (by decide) <|
  J_icmp_eq (tgt := 18) d_O_cls_2 (by decide) (fun c17 =>
  J_aload_n (i := 0) rfl rfl d_O_cls_18 <|
  gO_12 rfl d_O_cls_19 <|
  gO_38 rfl d_O_cls_22 <|
  J_bipush (v := (nI 8)) d_O_cls_25 (by decide) <|
  J_icmp_lt (tgt := 33) d_O_cls_27 (by decide) (fun c6 =>
  J_aload_n (i := 0) rfl rfl d_O_cls_33 <|
  kO_42_v rfl rfl rfl (args := []) (((((h).1 c17)).1 c6)) d_O_cls_34 (fun s1 h2 =>
  J_aload_n (i := 0) rfl rfl d_O_cls_37 <|
  gO_12 rfl d_O_cls_38 <|
  J_iload_n (i := 1) rfl rfl d_O_cls_41 <|
  kO_45_i rfl rfl rfl (args := [.inl x1]) (h2) d_O_cls_42 (fun r5 s3 h4 =>
  J_iret rfl d_O_cls_45 (h4)))) (fun c6 =>
  J_bipush (v := (-nI 4)) d_O_cls_30 (by decide) <|
  J_iret rfl d_O_cls_32 (((((h).1 c17)).2 c6)))) (fun c17 =>
  J_aload_n (i := 0) rfl rfl d_O_cls_5 <|
  gO_12 rfl d_O_cls_6 <|
  J_iload_n (i := 1) rfl rfl d_O_cls_9 <|
  kO_34_i rfl rfl rfl (args := [.inl x1]) (((h).2 c17)) d_O_cls_10 (fun r9 s7 h8 =>
  J_if_ne (tgt := 18) d_O_cls_13 (by decide) (fun c16 =>
  J_aload_n (i := 0) rfl rfl d_O_cls_18 <|
  gO_12 rfl d_O_cls_19 <|
  gO_38 rfl d_O_cls_22 <|
  J_bipush (v := (nI 8)) d_O_cls_25 (by decide) <|
  J_icmp_lt (tgt := 33) d_O_cls_27 (by decide) (fun c15 =>
  J_aload_n (i := 0) rfl rfl d_O_cls_33 <|
  kO_42_v rfl rfl rfl (args := []) (((((h8).1 c16)).1 c15)) d_O_cls_34 (fun s10 h11 =>
  J_aload_n (i := 0) rfl rfl d_O_cls_37 <|
  gO_12 rfl d_O_cls_38 <|
  J_iload_n (i := 1) rfl rfl d_O_cls_41 <|
  kO_45_i rfl rfl rfl (args := [.inl x1]) (h11) d_O_cls_42 (fun r14 s12 h13 =>
  J_iret rfl d_O_cls_45 (h13)))) (fun c15 =>
  J_bipush (v := (-nI 4)) d_O_cls_30 (by decide) <|
  J_iret rfl d_O_cls_32 (((((h8).1 c16)).2 c15)))) (fun c16 =>
  J_iconst (v := (-1 : Int32)) d_O_cls_16 (by decide) <|
  J_iret rfl d_O_cls_17 (((h8).2 c16)))))
theorem r_O_field_0 {Q : Option mV → mS → Prop} {σ : mS} {x1 : Int32} (h : MU M_P_hasClass [.inr (1, 0), .inl x1] σ (fun r s1 => ∃ r3, r = some (.inl r3) ∧ ((¬ r3 = (0 : Int32) → (((s1 1 1) < (nI 8) → (MU M_O_forgetAnswers [.inr (0, 0)] s1 (fun r s4 => r = none ∧ (MU M_P_addField [.inr (1, 0), .inl x1] s4 (fun r s6 => ∃ r8, r = some (.inl r8) ∧ (Q (some (.inl r8)) s6)))))) ∧ (¬ (s1 1 1) < (nI 8) → (Q (some (.inl (-nI 4))) s1)))) ∧ (r3 = (0 : Int32) → (Q (some (.inl (-1 : Int32))) s1))))) : J M_O_field Q 0 [some (.inr (0, 0)), some (.inl x1)] [] σ :=
  J_aload_n (i := 0) rfl rfl d_O_field_0 <|
  gO_12 rfl d_O_field_1 <|
  J_iload_n (i := 1) rfl rfl d_O_field_4 <|
  kO_34_i rfl rfl rfl (args := [.inl x1]) (h) d_O_field_5 (fun r3 s1 h2 =>
  J_if_ne (tgt := 13) d_O_field_8 (by decide) (fun c10 =>
  J_aload_n (i := 0) rfl rfl d_O_field_13 <|
  gO_12 rfl d_O_field_14 <|
  gO_49 rfl d_O_field_17 <|
  J_bipush (v := (nI 8)) d_O_field_20 (by decide) <|
  J_icmp_lt (tgt := 28) d_O_field_22 (by decide) (fun c9 =>
  J_aload_n (i := 0) rfl rfl d_O_field_28 <|
  kO_42_v rfl rfl rfl (args := []) (((((h2).1 c10)).1 c9)) d_O_field_29 (fun s4 h5 =>
  J_aload_n (i := 0) rfl rfl d_O_field_32 <|
  gO_12 rfl d_O_field_33 <|
  J_iload_n (i := 1) rfl rfl d_O_field_36 <|
  kO_52_i rfl rfl rfl (args := [.inl x1]) (h5) d_O_field_37 (fun r8 s6 h7 =>
  J_iret rfl d_O_field_40 (h7)))) (fun c9 =>
  J_bipush (v := (-nI 4)) d_O_field_25 (by decide) <|
  J_iret rfl d_O_field_27 (((((h2).1 c10)).2 c9)))) (fun c10 =>
  J_iconst (v := (-1 : Int32)) d_O_field_11 (by decide) <|
  J_iret rfl d_O_field_12 (((h2).2 c10))))
theorem r_O_method_0 {Q : Option mV → mS → Prop} {σ : mS} {x1 x2 : Int32} (h : MU M_P_hasClass [.inr (1, 0), .inl x1] σ (fun r s1 => ∃ r3, r = some (.inl r3) ∧ ((¬ r3 = (0 : Int32) → (MU M_O_isSignature [.inl x2] s1 (fun r s4 => ∃ r6, r = some (.inl r6) ∧ ((¬ r6 = (0 : Int32) → (MU M_P_ownMethod [.inr (1, 0), .inl x1, .inl x2] s4 (fun r s7 => ∃ r9, r = some (.inl r9) ∧ ((r9 = (-1 : Int32) → (((s7 1 2) < (nI 10) → (MU M_O_forgetAnswers [.inr (0, 0)] s7 (fun r s10 => r = none ∧ (MU M_P_addMethod [.inr (1, 0), .inl x1, .inl x2] s10 (fun r s12 => ∃ r14, r = some (.inl r14) ∧ (Q (some (.inl r14)) s12)))))) ∧ (¬ (s7 1 2) < (nI 10) → (Q (some (.inl (-nI 4))) s7)))) ∧ (¬ r9 = (-1 : Int32) → (Q (some (.inl (-nI 3))) s7)))))) ∧ (r6 = (0 : Int32) → (Q (some (.inl (-nI 2))) s4)))))) ∧ (r3 = (0 : Int32) → (Q (some (.inl (-1 : Int32))) s1))))) : J M_O_method Q 0 [some (.inr (0, 0)), some (.inl x1), some (.inl x2)] [] σ :=
  J_aload_n (i := 0) rfl rfl d_O_method_0 <|
  gO_12 rfl d_O_method_1 <|
  J_iload_n (i := 1) rfl rfl d_O_method_4 <|
  kO_34_i rfl rfl rfl (args := [.inl x1]) (h) d_O_method_5 (fun r3 s1 h2 =>
  J_if_ne (tgt := 13) d_O_method_8 (by decide) (fun c18 =>
  J_iload_n (i := 2) rfl rfl d_O_method_13 <|
  kO_55_i rfl rfl rfl (args := [.inl x2]) (((h2).1 c18)) d_O_method_14 (fun r6 s4 h5 =>
  J_if_ne (tgt := 23) d_O_method_17 (by decide) (fun c17 =>
  J_aload_n (i := 0) rfl rfl d_O_method_23 <|
  gO_12 rfl d_O_method_24 <|
  J_iload_n (i := 1) rfl rfl d_O_method_27 <|
  J_iload_n (i := 2) rfl rfl d_O_method_28 <|
  kO_58_i rfl rfl rfl (args := [.inl x1, .inl x2]) (((h5).1 c17)) d_O_method_29 (fun r9 s7 h8 =>
  J_iconst (v := (-1 : Int32)) d_O_method_32 (by decide) <|
  J_icmp_eq (tgt := 39) d_O_method_33 (by decide) (fun c16 =>
  J_aload_n (i := 0) rfl rfl d_O_method_39 <|
  gO_12 rfl d_O_method_40 <|
  gO_62 rfl d_O_method_43 <|
  J_bipush (v := (nI 10)) d_O_method_46 (by decide) <|
  J_icmp_lt (tgt := 54) d_O_method_48 (by decide) (fun c15 =>
  J_aload_n (i := 0) rfl rfl d_O_method_54 <|
  kO_42_v rfl rfl rfl (args := []) (((((h8).1 c16)).1 c15)) d_O_method_55 (fun s10 h11 =>
  J_aload_n (i := 0) rfl rfl d_O_method_58 <|
  gO_12 rfl d_O_method_59 <|
  J_iload_n (i := 1) rfl rfl d_O_method_62 <|
  J_iload_n (i := 2) rfl rfl d_O_method_63 <|
  kO_65_i rfl rfl rfl (args := [.inl x1, .inl x2]) (h11) d_O_method_64 (fun r14 s12 h13 =>
  J_iret rfl d_O_method_67 (h13)))) (fun c15 =>
  J_bipush (v := (-nI 4)) d_O_method_51 (by decide) <|
  J_iret rfl d_O_method_53 (((((h8).1 c16)).2 c15)))) (fun c16 =>
  J_bipush (v := (-nI 3)) d_O_method_36 (by decide) <|
  J_iret rfl d_O_method_38 (((h8).2 c16))))) (fun c17 =>
  J_bipush (v := (-nI 2)) d_O_method_20 (by decide) <|
  J_iret rfl d_O_method_22 (((h5).2 c17))))) (fun c18 =>
  J_iconst (v := (-1 : Int32)) d_O_method_11 (by decide) <|
  J_iret rfl d_O_method_12 (((h2).2 c18))))
theorem r_O_statement_0 {Q : Option mV → mS → Prop} {σ : mS} {x1 x2 x3 x4 x5 x6 x7 : Int32} (h : MU M_P_hasMethod [.inr (1, 0), .inl x1] σ (fun r s1 => ∃ r3, r = some (.inl r3) ∧ ((¬ r3 = (0 : Int32) → ((x2 < (0 : Int32) → (Q (some (.inl (-nI 2))) s1)) ∧ (¬ x2 < (0 : Int32) → ((x2 ≤ (nI 9) → (MU M_P_hasOperands [.inr (1, 0), .inl x2, .inl x3, .inl x4, .inl x5, .inl x6, .inl x7] s1 (fun r s4 => ∃ r6, r = some (.inl r6) ∧ ((¬ r6 = (0 : Int32) → ((¬ x2 = (nI 7) → (J M_O_statement Q 65 [some (.inr (0, 0)), some (.inl x1), some (.inl x2), some (.inl x3), some (.inl x4), some (.inl x5), some (.inl x6), some (.inl x7)] [] s4)) ∧ (x2 = (nI 7) → (MU M_O_isSignature [.inl x5] s4 (fun r s7 => ∃ r9, r = some (.inl r9) ∧ ((¬ r9 = (0 : Int32) → (J M_O_statement Q 65 [some (.inr (0, 0)), some (.inl x1), some (.inl x2), some (.inl x3), some (.inl x4), some (.inl x5), some (.inl x6), some (.inl x7)] [] s7)) ∧ (r9 = (0 : Int32) → (Q (some (.inl (-nI 2))) s7)))))))) ∧ (r6 = (0 : Int32) → (Q (some (.inl (-1 : Int32))) s4)))))) ∧ (¬ x2 ≤ (nI 9) → (Q (some (.inl (-nI 2))) s1)))))) ∧ (r3 = (0 : Int32) → (Q (some (.inl (-1 : Int32))) s1))))) : J M_O_statement Q 0 [some (.inr (0, 0)), some (.inl x1), some (.inl x2), some (.inl x3), some (.inl x4), some (.inl x5), some (.inl x6), some (.inl x7)] [] σ :=
  J_aload_n (i := 0) rfl rfl d_O_statement_0 <|
  gO_12 rfl d_O_statement_1 <|
  J_iload_n (i := 1) rfl rfl d_O_statement_4 <|
  kO_68_i rfl rfl rfl (args := [.inl x1]) (h) d_O_statement_5 (fun r3 s1 h2 =>
  J_if_ne (tgt := 13) d_O_statement_8 (by decide) (fun c15 =>
  J_iload_n (i := 2) rfl rfl d_O_statement_13 <|
  J_if_lt (tgt := 23) d_O_statement_14 (by decide) (fun c14 =>
  J_bipush (v := (-nI 2)) d_O_statement_23 (by decide) <|
  J_iret rfl d_O_statement_25 (((((h2).1 c15)).1 c14))) (fun c14 =>
  J_iload_n (i := 2) rfl rfl d_O_statement_17 <|
  J_bipush (v := (nI 9)) d_O_statement_18 (by decide) <|
  J_icmp_le (tgt := 26) d_O_statement_20 (by decide) (fun c13 =>
  J_aload_n (i := 0) rfl rfl d_O_statement_26 <|
  gO_12 rfl d_O_statement_27 <|
  J_iload_n (i := 2) rfl rfl d_O_statement_30 <|
  J_iload_n (i := 3) rfl rfl d_O_statement_31 <|
  J_iload (i := 4) rfl d_O_statement_32 <|
  J_iload (i := 5) rfl d_O_statement_34 <|
  J_iload (i := 6) rfl d_O_statement_36 <|
  J_iload (i := 7) rfl d_O_statement_38 <|
  kO_71_i rfl rfl rfl (args := [.inl x2, .inl x3, .inl x4, .inl x5, .inl x6, .inl x7]) (((((((h2).1 c15)).2 c14)).1 c13)) d_O_statement_40 (fun r6 s4 h5 =>
  J_if_ne (tgt := 48) d_O_statement_43 (by decide) (fun c12 =>
  J_iload_n (i := 2) rfl rfl d_O_statement_48 <|
  J_bipush (v := (nI 7)) d_O_statement_49 (by decide) <|
  J_icmp_ne (tgt := 65) d_O_statement_51 (by decide) (fun c11 =>
  ((((h5).1 c12)).1 c11)) (fun c11 =>
  J_iload (i := 5) rfl d_O_statement_54 <|
  kO_55_i rfl rfl rfl (args := [.inl x5]) (((((h5).1 c12)).2 c11)) d_O_statement_56 (fun r9 s7 h8 =>
  J_if_ne (tgt := 65) d_O_statement_59 (by decide) (fun c10 =>
  ((h8).1 c10)) (fun c10 =>
  J_bipush (v := (-nI 2)) d_O_statement_62 (by decide) <|
  J_iret rfl d_O_statement_64 (((h8).2 c10)))))) (fun c12 =>
  J_iconst (v := (-1 : Int32)) d_O_statement_46 (by decide) <|
  J_iret rfl d_O_statement_47 (((h5).2 c12))))) (fun c13 =>
  J_bipush (v := (-nI 2)) d_O_statement_23 (by decide) <|
  J_iret rfl d_O_statement_25 (((((((h2).1 c15)).2 c14)).2 c13))))) (fun c15 =>
  J_iconst (v := (-1 : Int32)) d_O_statement_11 (by decide) <|
  J_iret rfl d_O_statement_12 (((h2).2 c15))))
theorem r_O_statement_65 {Q : Option mV → mS → Prop} {σ : mS} {x1 x2 x3 x4 x5 x6 x7 : Int32} (h : MU M_P_hasRoomFor [.inr (1, 0), .inl x2] σ (fun r s16 => ∃ r18, r = some (.inl r18) ∧ ((¬ r18 = (0 : Int32) → (MU M_O_forgetAnswers [.inr (0, 0)] s16 (fun r s19 => r = none ∧ (MU M_P_nextStatement [.inr (1, 0)] s19 (fun r s21 => ∃ n23, r = some (.inr (59, n23)) ∧ (MU M_G_tell [.inr (59, n23), .inl x2, .inl x3, .inl x4, .inl x5, .inl x6, .inl x7] s21 (fun r s24 => r = none ∧ (MU M_P_addStatement [.inr (1, 0), .inl x1] s24 (fun r s26 => ∃ r28, r = some (.inl r28) ∧ (Q (some (.inl r28)) s26)))))))))) ∧ (r18 = (0 : Int32) → (Q (some (.inl (-nI 4))) s16))))) : J M_O_statement Q 65 [some (.inr (0, 0)), some (.inl x1), some (.inl x2), some (.inl x3), some (.inl x4), some (.inl x5), some (.inl x6), some (.inl x7)] [] σ :=
  J_aload_n (i := 0) rfl rfl d_O_statement_65 <|
  gO_12 rfl d_O_statement_66 <|
  J_iload_n (i := 2) rfl rfl d_O_statement_69 <|
  kO_75_i rfl rfl rfl (args := [.inl x2]) (h) d_O_statement_70 (fun r18 s16 h17 =>
  J_if_ne (tgt := 79) d_O_statement_73 (by decide) (fun c29 =>
  J_aload_n (i := 0) rfl rfl d_O_statement_79 <|
  kO_42_v rfl rfl rfl (args := []) (((h17).1 c29)) d_O_statement_80 (fun s19 h20 =>
  J_aload_n (i := 0) rfl rfl d_O_statement_83 <|
  gO_12 rfl d_O_statement_84 <|
  kO_78_r rfl rfl rfl (args := []) (h20) d_O_statement_87 (fun n23 s21 h22 =>
  J_iload_n (i := 2) rfl rfl d_O_statement_90 <|
  J_iload_n (i := 3) rfl rfl d_O_statement_91 <|
  J_iload (i := 4) rfl d_O_statement_92 <|
  J_iload (i := 5) rfl d_O_statement_94 <|
  J_iload (i := 6) rfl d_O_statement_96 <|
  J_iload (i := 7) rfl d_O_statement_98 <|
  kO_82_v rfl rfl rfl (args := [.inl x2, .inl x3, .inl x4, .inl x5, .inl x6, .inl x7]) (h22) d_O_statement_100 (fun s24 h25 =>
  J_aload_n (i := 0) rfl rfl d_O_statement_103 <|
  gO_12 rfl d_O_statement_104 <|
  J_iload_n (i := 1) rfl rfl d_O_statement_107 <|
  kO_88_i rfl rfl rfl (args := [.inl x1]) (h25) d_O_statement_108 (fun r28 s26 h27 =>
  J_iret rfl d_O_statement_111 (h27)))))) (fun c29 =>
  J_bipush (v := (-nI 4)) d_O_statement_76 (by decide) <|
  J_iret rfl d_O_statement_78 (((h17).2 c29))))
theorem r_O_mode_0 {Q : Option mV → mS → Prop} {σ : mS} {x1 : Int32} (h : (x1 = (0 : Int32) → (((σ 2 8) = (0 : Int32) → (J M_O_mode Q 27 [some (.inr (0, 0)), some (.inl x1), none] [.inl (0 : Int32)] σ)) ∧ (¬ (σ 2 8) = (0 : Int32) → (J M_O_mode Q 27 [some (.inr (0, 0)), some (.inl x1), none] [.inl (1 : Int32)] σ)))) ∧ (¬ x1 = (0 : Int32) → ((x1 = (1 : Int32) → (((σ 2 8) = (0 : Int32) → (J M_O_mode Q 27 [some (.inr (0, 0)), some (.inl x1), none] [.inl (0 : Int32)] σ)) ∧ (¬ (σ 2 8) = (0 : Int32) → (J M_O_mode Q 27 [some (.inr (0, 0)), some (.inl x1), none] [.inl (1 : Int32)] σ)))) ∧ (¬ x1 = (1 : Int32) → (Q (some (.inl (-nI 2))) σ))))) : J M_O_mode Q 0 [some (.inr (0, 0)), some (.inl x1), none] [] σ :=
  J_iload_n (i := 1) rfl rfl d_O_mode_0 <|
  J_if_eq (tgt := 12) d_O_mode_1 (by decide) (fun c4 =>
  J_aload_n (i := 0) rfl rfl d_O_mode_12 <|
  gO_21 rfl d_O_mode_13 <|
  gO_91 rfl d_O_mode_16 <|
  J_if_eq (tgt := 26) d_O_mode_19 (by decide) (fun c1 =>
  J_iconst (v := (0 : Int32)) d_O_mode_26 (by decide) <|
  ((((h).1 c4)).1 c1)) (fun c1 =>
  J_iconst (v := (1 : Int32)) d_O_mode_22 (by decide) <|
  J_goto (tgt := 27) d_O_mode_23 (by decide) <|
  ((((h).1 c4)).2 c1))) (fun c4 =>
  J_iload_n (i := 1) rfl rfl d_O_mode_4 <|
  J_iconst (v := (1 : Int32)) d_O_mode_5 (by decide) <|
  J_icmp_eq (tgt := 12) d_O_mode_6 (by decide) (fun c3 =>
  J_aload_n (i := 0) rfl rfl d_O_mode_12 <|
  gO_21 rfl d_O_mode_13 <|
  gO_91 rfl d_O_mode_16 <|
  J_if_eq (tgt := 26) d_O_mode_19 (by decide) (fun c2 =>
  J_iconst (v := (0 : Int32)) d_O_mode_26 (by decide) <|
  ((((((h).2 c4)).1 c3)).1 c2)) (fun c2 =>
  J_iconst (v := (1 : Int32)) d_O_mode_22 (by decide) <|
  J_goto (tgt := 27) d_O_mode_23 (by decide) <|
  ((((((h).2 c4)).1 c3)).2 c2))) (fun c3 =>
  J_bipush (v := (-nI 2)) d_O_mode_9 (by decide) <|
  J_iret rfl d_O_mode_11 (((((h).2 c4)).2 c3))))
theorem r_O_mode_27 {Q : Option mV → mS → Prop} {σ : mS} {x1 y0 : Int32} {u2 : Option mV} (h : MU M_O_forgetAnswers [.inr (0, 0)] σ (fun r s5 => r = none ∧ ((¬ x1 = (1 : Int32) → (Q (some (.inl y0)) (m_up s5 2 8 (0 : Int32)))) ∧ (x1 = (1 : Int32) → (Q (some (.inl y0)) (m_up s5 2 8 (1 : Int32))))))) : J M_O_mode Q 27 [some (.inr (0, 0)), some (.inl x1), u2] [.inl y0] σ :=
  J_istore_n (i := 2) (ls' := [some (.inr (0, 0)), some (.inl x1), some (.inl y0)]) rfl rfl rfl rfl d_O_mode_27 <|
  J_aload_n (i := 0) rfl rfl d_O_mode_28 <|
  kO_42_v rfl rfl rfl (args := []) (h) d_O_mode_29 (fun s5 h6 =>
  J_aload_n (i := 0) rfl rfl d_O_mode_32 <|
  gO_21 rfl d_O_mode_33 <|
  J_iload_n (i := 1) rfl rfl d_O_mode_36 <|
  J_iconst (v := (1 : Int32)) d_O_mode_37 (by decide) <|
  J_icmp_ne (tgt := 45) d_O_mode_38 (by decide) (fun c9 =>
  J_iconst (v := (0 : Int32)) d_O_mode_45 (by decide) <|
  pO_91 rfl (Or.inl rfl) d_O_mode_46 <|
  J_iload_n (i := 2) rfl rfl d_O_mode_49 <|
  J_iret rfl d_O_mode_50 (((h6).1 c9))) (fun c9 =>
  J_iconst (v := (1 : Int32)) d_O_mode_41 (by decide) <|
  J_goto (tgt := 46) d_O_mode_42 (by decide) <|
  pO_91 rfl (Or.inr rfl) d_O_mode_46 <|
  J_iload_n (i := 2) rfl rfl d_O_mode_49 <|
  J_iret rfl d_O_mode_50 (((h6).2 c9))))
theorem r_O_clear_0 {Q : Option mV → mS → Prop} {σ : mS} (h : MU M_O_forgetAnswers [.inr (0, 0)] σ (fun r s2 => r = none ∧ (MU M_P_empty [.inr (1, 0)] s2 (fun r s4 => r = none ∧ (Q (some (.inl (σ 1 3))) s4))))) : J M_O_clear Q 0 [some (.inr (0, 0)), none] [] σ :=
  J_aload_n (i := 0) rfl rfl d_O_clear_0 <|
  gO_12 rfl d_O_clear_1 <|
  gO_95 rfl d_O_clear_4 <|
  J_istore_n (i := 1) (ls' := [some (.inr (0, 0)), some (.inl (σ 1 3))]) rfl rfl rfl rfl d_O_clear_7 <|
  J_aload_n (i := 0) rfl rfl d_O_clear_8 <|
  kO_42_v rfl rfl rfl (args := []) (h) d_O_clear_9 (fun s2 h3 =>
  J_aload_n (i := 0) rfl rfl d_O_clear_12 <|
  gO_12 rfl d_O_clear_13 <|
  kO_98_v rfl rfl rfl (args := []) (h3) d_O_clear_16 (fun s4 h5 =>
  J_iload_n (i := 1) rfl rfl d_O_clear_19 <|
  J_iret rfl d_O_clear_20 (h5)))
theorem r_O_points_0 {Q : Option mV → mS → Prop} {σ : mS} {x1 x2 x3 : Int32} (h : MU M_P_hasName [.inr (1, 0), .inl x1, .inl x3] σ (fun r s1 => ∃ r3, r = some (.inl r3) ∧ ((¬ r3 = (0 : Int32) → ((x2 = (-1 : Int32) → (J M_O_points Q 32 [some (.inr (0, 0)), some (.inl x1), some (.inl x2), some (.inl x3)] [] s1)) ∧ (¬ x2 = (-1 : Int32) → (MU M_S_hasContext [.inr (2, 0), .inl x2] s1 (fun r s4 => ∃ r6, r = some (.inl r6) ∧ ((¬ r6 = (0 : Int32) → (J M_O_points Q 32 [some (.inr (0, 0)), some (.inl x1), some (.inl x2), some (.inl x3)] [] s4)) ∧ (r6 = (0 : Int32) → (Q (some (.inl (-1 : Int32))) s4)))))))) ∧ (r3 = (0 : Int32) → (Q (some (.inl (-1 : Int32))) s1))))) : J M_O_points Q 0 [some (.inr (0, 0)), some (.inl x1), some (.inl x2), some (.inl x3)] [] σ :=
  J_aload_n (i := 0) rfl rfl d_O_points_0 <|
  gO_12 rfl d_O_points_1 <|
  J_iload_n (i := 1) rfl rfl d_O_points_4 <|
  J_iload_n (i := 3) rfl rfl d_O_points_5 <|
  kO_101_i rfl rfl rfl (args := [.inl x1, .inl x3]) (h) d_O_points_6 (fun r3 s1 h2 =>
  J_if_ne (tgt := 14) d_O_points_9 (by decide) (fun c9 =>
  J_iload_n (i := 2) rfl rfl d_O_points_14 <|
  J_iconst (v := (-1 : Int32)) d_O_points_15 (by decide) <|
  J_icmp_eq (tgt := 32) d_O_points_16 (by decide) (fun c8 =>
  ((((h2).1 c9)).1 c8)) (fun c8 =>
  J_aload_n (i := 0) rfl rfl d_O_points_19 <|
  gO_21 rfl d_O_points_20 <|
  J_iload_n (i := 2) rfl rfl d_O_points_23 <|
  kO_105_i rfl rfl rfl (args := [.inl x2]) (((((h2).1 c9)).2 c8)) d_O_points_24 (fun r6 s4 h5 =>
  J_if_ne (tgt := 32) d_O_points_27 (by decide) (fun c7 =>
  ((h5).1 c7)) (fun c7 =>
  J_iconst (v := (-1 : Int32)) d_O_points_30 (by decide) <|
  J_iret rfl d_O_points_31 (((h5).2 c7)))))) (fun c9 =>
  J_iconst (v := (-1 : Int32)) d_O_points_12 (by decide) <|
  J_iret rfl d_O_points_13 (((h2).2 c9))))
theorem r_O_points_32 {Q : Option mV → mS → Prop} {σ : mS} {x1 x2 x3 : Int32} (h : MU M_S_settle [.inr (2, 0)] σ (fun r s10 => r = none ∧ ((¬ x2 = (-1 : Int32) → (MU M_O_namesOf [.inl x1, .inl x2] s10 (fun r s12 => ∃ r14, r = some (.inl r14) ∧ (MU M_S_at [.inr (2, 0), .inl (r14 + x3)] s12 (fun r s15 => ∃ r17, r = some (.inl r17) ∧ (Q (some (.inl r17)) s15)))))) ∧ (x2 = (-1 : Int32) → (MU M_S_inAllContexts [.inr (2, 0), .inl x1, .inl x3] s10 (fun r s18 => ∃ r20, r = some (.inl r20) ∧ (Q (some (.inl r20)) s18))))))) : J M_O_points Q 32 [some (.inr (0, 0)), some (.inl x1), some (.inl x2), some (.inl x3)] [] σ :=
  J_aload_n (i := 0) rfl rfl d_O_points_32 <|
  gO_21 rfl d_O_points_33 <|
  kO_108_v rfl rfl rfl (args := []) (h) d_O_points_36 (fun s10 h11 =>
  J_iload_n (i := 2) rfl rfl d_O_points_39 <|
  J_iconst (v := (-1 : Int32)) d_O_points_40 (by decide) <|
  J_icmp_ne (tgt := 54) d_O_points_41 (by decide) (fun c21 =>
  J_aload_n (i := 0) rfl rfl d_O_points_54 <|
  gO_21 rfl d_O_points_55 <|
  J_iload_n (i := 1) rfl rfl d_O_points_58 <|
  J_iload_n (i := 2) rfl rfl d_O_points_59 <|
  kO_114_i rfl rfl rfl (args := [.inl x1, .inl x2]) (((h11).1 c21)) d_O_points_60 (fun r14 s12 h13 =>
  J_iload_n (i := 3) rfl rfl d_O_points_63 <|
  J_iadd d_O_points_64 <|
  kO_117_i rfl rfl rfl (args := [.inl (r14 + x3)]) (h13) d_O_points_65 (fun r17 s15 h16 =>
  J_iret rfl d_O_points_68 (h16)))) (fun c21 =>
  J_aload_n (i := 0) rfl rfl d_O_points_44 <|
  gO_21 rfl d_O_points_45 <|
  J_iload_n (i := 1) rfl rfl d_O_points_48 <|
  J_iload_n (i := 3) rfl rfl d_O_points_49 <|
  kO_111_i rfl rfl rfl (args := [.inl x1, .inl x3]) (((h11).2 c21)) d_O_points_50 (fun r20 s18 h19 =>
  J_iret rfl d_O_points_53 (h19))))
theorem r_O_inField_0 {Q : Option mV → mS → Prop} {σ : mS} {x1 x2 : Int32} (h : MU M_P_hasSite [.inr (1, 0), .inl x1] σ (fun r s1 => ∃ r3, r = some (.inl r3) ∧ ((r3 = (0 : Int32) → (Q (some (.inl (-1 : Int32))) s1)) ∧ (¬ r3 = (0 : Int32) → (MU M_P_hasField [.inr (1, 0), .inl x2] s1 (fun r s4 => ∃ r6, r = some (.inl r6) ∧ ((¬ r6 = (0 : Int32) → (MU M_S_settle [.inr (2, 0)] s4 (fun r s7 => r = none ∧ (MU M_O_slotPlace [.inl x1, .inl x2] s7 (fun r s9 => ∃ r11, r = some (.inl r11) ∧ (MU M_S_at [.inr (2, 0), .inl r11] s9 (fun r s12 => ∃ r14, r = some (.inl r14) ∧ (Q (some (.inl r14)) s12)))))))) ∧ (r6 = (0 : Int32) → (Q (some (.inl (-1 : Int32))) s4))))))))) : J M_O_inField Q 0 [some (.inr (0, 0)), some (.inl x1), some (.inl x2)] [] σ :=
  J_aload_n (i := 0) rfl rfl d_O_inField_0 <|
  gO_12 rfl d_O_inField_1 <|
  J_iload_n (i := 1) rfl rfl d_O_inField_4 <|
  kO_120_i rfl rfl rfl (args := [.inl x1]) (h) d_O_inField_5 (fun r3 s1 h2 =>
  J_if_eq (tgt := 22) d_O_inField_8 (by decide) (fun c16 =>
  J_iconst (v := (-1 : Int32)) d_O_inField_22 (by decide) <|
  J_iret rfl d_O_inField_23 (((h2).1 c16))) (fun c16 =>
  J_aload_n (i := 0) rfl rfl d_O_inField_11 <|
  gO_12 rfl d_O_inField_12 <|
  J_iload_n (i := 2) rfl rfl d_O_inField_15 <|
  kO_123_i rfl rfl rfl (args := [.inl x2]) (((h2).2 c16)) d_O_inField_16 (fun r6 s4 h5 =>
  J_if_ne (tgt := 24) d_O_inField_19 (by decide) (fun c15 =>
  J_aload_n (i := 0) rfl rfl d_O_inField_24 <|
  gO_21 rfl d_O_inField_25 <|
  kO_108_v rfl rfl rfl (args := []) (((h5).1 c15)) d_O_inField_28 (fun s7 h8 =>
  J_aload_n (i := 0) rfl rfl d_O_inField_31 <|
  gO_21 rfl d_O_inField_32 <|
  J_iload_n (i := 1) rfl rfl d_O_inField_35 <|
  J_iload_n (i := 2) rfl rfl d_O_inField_36 <|
  kO_126_i rfl rfl rfl (args := [.inl x1, .inl x2]) (h8) d_O_inField_37 (fun r11 s9 h10 =>
  kO_117_i rfl rfl rfl (args := [.inl r11]) (h10) d_O_inField_40 (fun r14 s12 h13 =>
  J_iret rfl d_O_inField_43 (h13))))) (fun c15 =>
  J_iconst (v := (-1 : Int32)) d_O_inField_22 (by decide) <|
  J_iret rfl d_O_inField_23 (((h5).2 c15))))))
theorem r_O_element_0 {Q : Option mV → mS → Prop} {σ : mS} {x1 : Int32} (h : MU M_P_hasSite [.inr (1, 0), .inl x1] σ (fun r s1 => ∃ r3, r = some (.inl r3) ∧ ((¬ r3 = (0 : Int32) → (MU M_S_settle [.inr (2, 0)] s1 (fun r s4 => r = none ∧ (MU M_O_slotPlace [.inl x1, .inl (nI 8)] s4 (fun r s6 => ∃ r8, r = some (.inl r8) ∧ (MU M_S_at [.inr (2, 0), .inl r8] s6 (fun r s9 => ∃ r11, r = some (.inl r11) ∧ (Q (some (.inl r11)) s9)))))))) ∧ (r3 = (0 : Int32) → (Q (some (.inl (-1 : Int32))) s1))))) : J M_O_element Q 0 [some (.inr (0, 0)), some (.inl x1)] [] σ :=
  J_aload_n (i := 0) rfl rfl d_O_element_0 <|
  gO_12 rfl d_O_element_1 <|
  J_iload_n (i := 1) rfl rfl d_O_element_4 <|
  kO_120_i rfl rfl rfl (args := [.inl x1]) (h) d_O_element_5 (fun r3 s1 h2 =>
  J_if_ne (tgt := 13) d_O_element_8 (by decide) (fun c12 =>
  J_aload_n (i := 0) rfl rfl d_O_element_13 <|
  gO_21 rfl d_O_element_14 <|
  kO_108_v rfl rfl rfl (args := []) (((h2).1 c12)) d_O_element_17 (fun s4 h5 =>
  J_aload_n (i := 0) rfl rfl d_O_element_20 <|
  gO_21 rfl d_O_element_21 <|
  J_iload_n (i := 1) rfl rfl d_O_element_24 <|
  J_bipush (v := (nI 8)) d_O_element_25 (by decide) <|
  kO_126_i rfl rfl rfl (args := [.inl x1, .inl (nI 8)]) (h5) d_O_element_27 (fun r8 s6 h7 =>
  kO_117_i rfl rfl rfl (args := [.inl r8]) (h7) d_O_element_30 (fun r11 s9 h10 =>
  J_iret rfl d_O_element_33 (h10))))) (fun c12 =>
  J_iconst (v := (-1 : Int32)) d_O_element_11 (by decide) <|
  J_iret rfl d_O_element_12 (((h2).2 c12))))
theorem r_O_inStatic_0 {Q : Option mV → mS → Prop} {σ : mS} {x1 : Int32} (h : MU M_O_isStatic [.inl x1] σ (fun r s1 => ∃ r3, r = some (.inl r3) ∧ ((¬ r3 = (0 : Int32) → (MU M_S_settle [.inr (2, 0)] s1 (fun r s4 => r = none ∧ (MU M_S_at [.inr (2, 0), .inl ((nI 1440) + x1)] s4 (fun r s6 => ∃ r8, r = some (.inl r8) ∧ (Q (some (.inl r8)) s6)))))) ∧ (r3 = (0 : Int32) → (Q (some (.inl (-1 : Int32))) s1))))) : J M_O_inStatic Q 0 [some (.inr (0, 0)), some (.inl x1)] [] σ :=
  J_iload_n (i := 1) rfl rfl d_O_inStatic_0 <|
  kO_129_i rfl rfl rfl (args := [.inl x1]) (h) d_O_inStatic_1 (fun r3 s1 h2 =>
  J_if_ne (tgt := 9) d_O_inStatic_4 (by decide) (fun c9 =>
  J_aload_n (i := 0) rfl rfl d_O_inStatic_9 <|
  gO_21 rfl d_O_inStatic_10 <|
  kO_108_v rfl rfl rfl (args := []) (((h2).1 c9)) d_O_inStatic_13 (fun s4 h5 =>
  J_aload_n (i := 0) rfl rfl d_O_inStatic_16 <|
  gO_21 rfl d_O_inStatic_17 <|
  J_sipush (v := (nI 1440)) d_O_inStatic_20 (by decide) <|
  J_iload_n (i := 1) rfl rfl d_O_inStatic_23 <|
  J_iadd d_O_inStatic_24 <|
  kO_117_i rfl rfl rfl (args := [.inl ((nI 1440) + x1)]) (h5) d_O_inStatic_25 (fun r8 s6 h7 =>
  J_iret rfl d_O_inStatic_28 (h7)))) (fun c9 =>
  J_iconst (v := (-1 : Int32)) d_O_inStatic_7 (by decide) <|
  J_iret rfl d_O_inStatic_8 (((h2).2 c9))))
theorem r_O_reached_0 {Q : Option mV → mS → Prop} {σ : mS} {x1 : Int32} (h : MU M_P_hasMethod [.inr (1, 0), .inl x1] σ (fun r s1 => ∃ r3, r = some (.inl r3) ∧ ((¬ r3 = (0 : Int32) → (MU M_S_settle [.inr (2, 0)] s1 (fun r s4 => r = none ∧ (MU M_S_at [.inr (2, 0), .inl ((nI 1444) + x1)] s4 (fun r s6 => ∃ r8, r = some (.inl r8) ∧ (MU M_I_bitCount [.inl r8] s6 (fun r s9 => ∃ r11, r = some (.inl r11) ∧ (Q (some (.inl r11)) s9)))))))) ∧ (r3 = (0 : Int32) → (Q (some (.inl (-1 : Int32))) s1))))) : J M_O_reached Q 0 [some (.inr (0, 0)), some (.inl x1)] [] σ :=
  J_aload_n (i := 0) rfl rfl d_O_reached_0 <|
  gO_12 rfl d_O_reached_1 <|
  J_iload_n (i := 1) rfl rfl d_O_reached_4 <|
  kO_68_i rfl rfl rfl (args := [.inl x1]) (h) d_O_reached_5 (fun r3 s1 h2 =>
  J_if_ne (tgt := 13) d_O_reached_8 (by decide) (fun c12 =>
  J_aload_n (i := 0) rfl rfl d_O_reached_13 <|
  gO_21 rfl d_O_reached_14 <|
  kO_108_v rfl rfl rfl (args := []) (((h2).1 c12)) d_O_reached_17 (fun s4 h5 =>
  J_aload_n (i := 0) rfl rfl d_O_reached_20 <|
  gO_21 rfl d_O_reached_21 <|
  J_sipush (v := (nI 1444)) d_O_reached_24 (by decide) <|
  J_iload_n (i := 1) rfl rfl d_O_reached_27 <|
  J_iadd d_O_reached_28 <|
  kO_117_i rfl rfl rfl (args := [.inl ((nI 1444) + x1)]) (h5) d_O_reached_29 (fun r8 s6 h7 =>
  kO_132_i rfl rfl rfl (args := [.inl r8]) (h7) d_O_reached_32 (fun r11 s9 h10 =>
  J_iret rfl d_O_reached_35 (h10))))) (fun c12 =>
  J_iconst (v := (-1 : Int32)) d_O_reached_11 (by decide) <|
  J_iret rfl d_O_reached_12 (((h2).2 c12))))
theorem r_O_may_0 {Q : Option mV → mS → Prop} {σ : mS} {x1 : Int32} (h : MU M_P_hasStatement [.inr (1, 0), .inl x1] σ (fun r s1 => ∃ r3, r = some (.inl r3) ∧ ((¬ r3 = (0 : Int32) → (vp_in x1 60 ∧ (((s1 (59 + x1.toNatClampNeg % 60) 2) = (nI 7) → (J M_O_may Q 43 [some (.inr (0, 0)), some (.inl x1), some (.inr (59, x1.toNatClampNeg)), none] [] s1)) ∧ (¬ (s1 (59 + x1.toNatClampNeg % 60) 2) = (nI 7) → (((s1 (59 + x1.toNatClampNeg % 60) 2) = (nI 4) → (J M_O_may Q 43 [some (.inr (0, 0)), some (.inl x1), some (.inr (59, x1.toNatClampNeg)), none] [] s1)) ∧ (¬ (s1 (59 + x1.toNatClampNeg % 60) 2) = (nI 4) → (Q (some (.inl (-nI 3))) s1))))))) ∧ (r3 = (0 : Int32) → (Q (some (.inl (-1 : Int32))) s1))))) : J M_O_may Q 0 [some (.inr (0, 0)), some (.inl x1), none, none] [] σ :=
  J_aload_n (i := 0) rfl rfl d_O_may_0 <|
  gO_12 rfl d_O_may_1 <|
  J_iload_n (i := 1) rfl rfl d_O_may_4 <|
  kO_137_i rfl rfl rfl (args := [.inl x1]) (h) d_O_may_5 (fun r3 s1 h2 =>
  J_if_ne (tgt := 13) d_O_may_8 (by decide) (fun c6 =>
  J_aload_n (i := 0) rfl rfl d_O_may_13 <|
  gO_12 rfl d_O_may_14 <|
  gO_140 rfl d_O_may_17 <|
  J_iload_n (i := 1) rfl rfl d_O_may_20 <|
  J_aald (((h2).1 c6)).1 d_O_may_21 <|
  J_astore_n (i := 2) (ls' := [some (.inr (0, 0)), some (.inl x1), some (.inr (59, x1.toNatClampNeg)), none]) rfl rfl rfl rfl d_O_may_22 <|
  J_aload_n (i := 2) rfl rfl d_O_may_23 <|
  gO_144 rfl d_O_may_24 <|
  J_bipush (v := (nI 7)) d_O_may_27 (by decide) <|
  J_icmp_eq (tgt := 43) d_O_may_29 (by decide) (fun c5 =>
  (((((h2).1 c6)).2).1 c5)) (fun c5 =>
  J_aload_n (i := 2) rfl rfl d_O_may_32 <|
  gO_144 rfl d_O_may_33 <|
  J_iconst (v := (nI 4)) d_O_may_36 (by decide) <|
  J_icmp_eq (tgt := 43) d_O_may_37 (by decide) (fun c4 =>
  (((((((h2).1 c6)).2).2 c5)).1 c4)) (fun c4 =>
  J_bipush (v := (-nI 3)) d_O_may_40 (by decide) <|
  J_iret rfl d_O_may_42 ((((((((h2).1 c6)).2).2 c5)).2 c4))))) (fun c6 =>
  J_iconst (v := (-1 : Int32)) d_O_may_11 (by decide) <|
  J_iret rfl d_O_may_12 (((h2).2 c6))))
theorem r_O_may_43 {Q : Option mV → mS → Prop} {σ : mS} {n2 : Nat} {u1 u3 : Option mV} (h : MU M_S_settle [.inr (2, 0)] σ (fun r s7 => r = none ∧ (MU M_S_inAllContexts [.inr (2, 0), .inl (s7 (59 + n2 % 60) 0), .inl (s7 (59 + n2 % 60) 4)] s7 (fun r s9 => ∃ r11, r = some (.inl r11) ∧ ((¬ (s9 (59 + n2 % 60) 2) = (nI 7) → (vp_in (s9 (59 + n2 % 60) 5) 8 ∧ (Q (some (.inl (r11 &&& ((s9 6 (s9 (59 + n2 % 60) 5).toNatClampNeg) ^^^ (-1 : Int32))))) s9))) ∧ ((s9 (59 + n2 % 60) 2) = (nI 7) → (MU M_P_methodsFound [.inr (1, 0), .inl r11, .inl (s9 (59 + n2 % 60) 5)] s9 (fun r s12 => ∃ r14, r = some (.inl r14) ∧ (Q (some (.inl r14)) s12))))))))) : J M_O_may Q 43 [some (.inr (0, 0)), u1, some (.inr (59, n2)), u3] [] σ :=
  J_aload_n (i := 0) rfl rfl d_O_may_43 <|
  gO_21 rfl d_O_may_44 <|
  kO_108_v rfl rfl rfl (args := []) (h) d_O_may_47 (fun s7 h8 =>
  J_aload_n (i := 0) rfl rfl d_O_may_50 <|
  gO_21 rfl d_O_may_51 <|
  J_aload_n (i := 2) rfl rfl d_O_may_54 <|
  gO_147 rfl d_O_may_55 <|
  J_aload_n (i := 2) rfl rfl d_O_may_58 <|
  gO_150 rfl d_O_may_59 <|
  kO_111_i rfl rfl rfl (args := [.inl (s7 (59 + n2 % 60) 0), .inl (s7 (59 + n2 % 60) 4)]) (h8) d_O_may_62 (fun r11 s9 h10 =>
  J_istore_n (i := 3) (ls' := [some (.inr (0, 0)), u1, some (.inr (59, n2)), some (.inl r11)]) rfl rfl rfl rfl d_O_may_65 <|
  J_aload_n (i := 2) rfl rfl d_O_may_66 <|
  gO_144 rfl d_O_may_67 <|
  J_bipush (v := (nI 7)) d_O_may_70 (by decide) <|
  J_icmp_ne (tgt := 88) d_O_may_72 (by decide) (fun c15 =>
  J_iload_n (i := 3) rfl rfl d_O_may_88 <|
  J_aload_n (i := 0) rfl rfl d_O_may_89 <|
  gO_12 rfl d_O_may_90 <|
  gO_159 rfl d_O_may_93 <|
  J_aload_n (i := 2) rfl rfl d_O_may_96 <|
  gO_153 rfl d_O_may_97 <|
  J_iald (((h10).1 c15)).1 d_O_may_100 <|
  J_iconst (v := (-1 : Int32)) d_O_may_101 (by decide) <|
  J_ixor d_O_may_102 <|
  J_iand d_O_may_103 <|
  J_iret rfl d_O_may_104 ((((h10).1 c15)).2)) (fun c15 =>
  J_aload_n (i := 0) rfl rfl d_O_may_75 <|
  gO_12 rfl d_O_may_76 <|
  J_iload_n (i := 3) rfl rfl d_O_may_79 <|
  J_aload_n (i := 2) rfl rfl d_O_may_80 <|
  gO_153 rfl d_O_may_81 <|
  kO_156_i rfl rfl rfl (args := [.inl r11, .inl (s9 (59 + n2 % 60) 5)]) (((h10).2 c15)) d_O_may_84 (fun r14 s12 h13 =>
  J_iret rfl d_O_may_87 (h13)))))
theorem r_O_alias_0 {Q : Option mV → mS → Prop} {σ : mS} {x1 x2 x3 x4 : Int32} (h : MU M_P_hasName [.inr (1, 0), .inl x1, .inl x2] σ (fun r s1 => ∃ r3, r = some (.inl r3) ∧ ((r3 = (0 : Int32) → (Q (some (.inl (-1 : Int32))) s1)) ∧ (¬ r3 = (0 : Int32) → (MU M_P_hasName [.inr (1, 0), .inl x3, .inl x4] s1 (fun r s4 => ∃ r6, r = some (.inl r6) ∧ ((¬ r6 = (0 : Int32) → (MU M_S_settle [.inr (2, 0)] s4 (fun r s7 => r = none ∧ (MU M_S_inAllContexts [.inr (2, 0), .inl x1, .inl x2] s7 (fun r s9 => ∃ r11, r = some (.inl r11) ∧ (MU M_S_inAllContexts [.inr (2, 0), .inl x3, .inl x4] s9 (fun r s12 => ∃ r14, r = some (.inl r14) ∧ (∀ v15, v15 = (r11 &&& r14) → ((v15 = (0 : Int32) → (Q (some (.inl (0 : Int32))) s12)) ∧ (¬ v15 = (0 : Int32) → (Q (some (.inl (1 : Int32))) s12))))))))))) ∧ (r6 = (0 : Int32) → (Q (some (.inl (-1 : Int32))) s4))))))))) : J M_O_alias Q 0 [some (.inr (0, 0)), some (.inl x1), some (.inl x2), some (.inl x3), some (.inl x4), none] [] σ :=
  J_aload_n (i := 0) rfl rfl d_O_alias_0 <|
  gO_12 rfl d_O_alias_1 <|
  J_iload_n (i := 1) rfl rfl d_O_alias_4 <|
  J_iload_n (i := 2) rfl rfl d_O_alias_5 <|
  kO_101_i rfl rfl rfl (args := [.inl x1, .inl x2]) (h) d_O_alias_6 (fun r3 s1 h2 =>
  J_if_eq (tgt := 25) d_O_alias_9 (by decide) (fun c18 =>
  J_iconst (v := (-1 : Int32)) d_O_alias_25 (by decide) <|
  J_iret rfl d_O_alias_26 (((h2).1 c18))) (fun c18 =>
  J_aload_n (i := 0) rfl rfl d_O_alias_12 <|
  gO_12 rfl d_O_alias_13 <|
  J_iload_n (i := 3) rfl rfl d_O_alias_16 <|
  J_iload (i := 4) rfl d_O_alias_17 <|
  kO_101_i rfl rfl rfl (args := [.inl x3, .inl x4]) (((h2).2 c18)) d_O_alias_19 (fun r6 s4 h5 =>
  J_if_ne (tgt := 27) d_O_alias_22 (by decide) (fun c17 =>
  J_aload_n (i := 0) rfl rfl d_O_alias_27 <|
  gO_21 rfl d_O_alias_28 <|
  kO_108_v rfl rfl rfl (args := []) (((h5).1 c17)) d_O_alias_31 (fun s7 h8 =>
  J_aload_n (i := 0) rfl rfl d_O_alias_34 <|
  gO_21 rfl d_O_alias_35 <|
  J_iload_n (i := 1) rfl rfl d_O_alias_38 <|
  J_iload_n (i := 2) rfl rfl d_O_alias_39 <|
  kO_111_i rfl rfl rfl (args := [.inl x1, .inl x2]) (h8) d_O_alias_40 (fun r11 s9 h10 =>
  J_aload_n (i := 0) rfl rfl d_O_alias_43 <|
  gO_21 rfl d_O_alias_44 <|
  J_iload_n (i := 3) rfl rfl d_O_alias_47 <|
  J_iload (i := 4) rfl d_O_alias_48 <|
  kO_111_i rfl rfl rfl (args := [.inl x3, .inl x4]) (h10) d_O_alias_50 (fun r14 s12 h13 =>
  J_iand d_O_alias_53 <|
  J_namei (fun v15 ev15 =>
  J_istore (i := 5) (ls' := [some (.inr (0, 0)), some (.inl x1), some (.inl x2), some (.inl x3), some (.inl x4), some (.inl v15)]) rfl rfl rfl d_O_alias_54 <|
  J_iload (i := 5) rfl d_O_alias_56 <|
  J_if_eq (tgt := 65) d_O_alias_58 (by decide) (fun c16 =>
  J_iconst (v := (0 : Int32)) d_O_alias_65 (by decide) <|
  J_iret rfl d_O_alias_66 (((((h13) v15 ev15)).1 c16))) (fun c16 =>
  J_iconst (v := (1 : Int32)) d_O_alias_61 (by decide) <|
  J_goto (tgt := 66) d_O_alias_62 (by decide) <|
  J_iret rfl d_O_alias_66 (((((h13) v15 ev15)).2 c16)))))))) (fun c17 =>
  J_iconst (v := (-1 : Int32)) d_O_alias_25 (by decide) <|
  J_iret rfl d_O_alias_26 (((h5).2 c17))))))
theorem r_O_rounds_0 {Q : Option mV → mS → Prop} {σ : mS} (h : MU M_S_settle [.inr (2, 0)] σ (fun r s1 => r = none ∧ (Q (some (.inl (s1 2 6))) s1))) : J M_O_rounds Q 0 [some (.inr (0, 0))] [] σ :=
  J_aload_n (i := 0) rfl rfl d_O_rounds_0 <|
  gO_21 rfl d_O_rounds_1 <|
  kO_108_v rfl rfl rfl (args := []) (h) d_O_rounds_4 (fun s1 h2 =>
  J_aload_n (i := 0) rfl rfl d_O_rounds_7 <|
  gO_21 rfl d_O_rounds_8 <|
  gO_163 rfl d_O_rounds_11 <|
  J_iret rfl d_O_rounds_14 (h2))
theorem r_O_when_0 {Q : Option mV → mS → Prop} {σ : mS} {x1 x2 x3 : Int32} (h : MU M_P_hasName [.inr (1, 0), .inl x1, .inl x2] σ (fun r s1 => ∃ r3, r = some (.inl r3) ∧ ((r3 = (0 : Int32) → (Q (some (.inl (-1 : Int32))) s1)) ∧ (¬ r3 = (0 : Int32) → (MU M_P_hasSite [.inr (1, 0), .inl x3] s1 (fun r s4 => ∃ r6, r = some (.inl r6) ∧ ((¬ r6 = (0 : Int32) → (MU M_S_settle [.inr (2, 0)] s4 (fun r s7 => r = none ∧ (MU M_S_firstRound [.inr (2, 0), .inl x1, .inl x2, .inl x3] s7 (fun r s9 => ∃ r11, r = some (.inl r11) ∧ ((¬ r11 = (0 : Int32) → (Q (some (.inl r11)) s9)) ∧ (r11 = (0 : Int32) → (Q (some (.inl (-nI 3))) s9)))))))) ∧ (r6 = (0 : Int32) → (Q (some (.inl (-1 : Int32))) s4))))))))) : J M_O_when Q 0 [some (.inr (0, 0)), some (.inl x1), some (.inl x2), some (.inl x3), none] [] σ :=
  J_aload_n (i := 0) rfl rfl d_O_when_0 <|
  gO_12 rfl d_O_when_1 <|
  J_iload_n (i := 1) rfl rfl d_O_when_4 <|
  J_iload_n (i := 2) rfl rfl d_O_when_5 <|
  kO_101_i rfl rfl rfl (args := [.inl x1, .inl x2]) (h) d_O_when_6 (fun r3 s1 h2 =>
  J_if_eq (tgt := 23) d_O_when_9 (by decide) (fun c14 =>
  J_iconst (v := (-1 : Int32)) d_O_when_23 (by decide) <|
  J_iret rfl d_O_when_24 (((h2).1 c14))) (fun c14 =>
  J_aload_n (i := 0) rfl rfl d_O_when_12 <|
  gO_12 rfl d_O_when_13 <|
  J_iload_n (i := 3) rfl rfl d_O_when_16 <|
  kO_120_i rfl rfl rfl (args := [.inl x3]) (((h2).2 c14)) d_O_when_17 (fun r6 s4 h5 =>
  J_if_ne (tgt := 25) d_O_when_20 (by decide) (fun c13 =>
  J_aload_n (i := 0) rfl rfl d_O_when_25 <|
  gO_21 rfl d_O_when_26 <|
  kO_108_v rfl rfl rfl (args := []) (((h5).1 c13)) d_O_when_29 (fun s7 h8 =>
  J_aload_n (i := 0) rfl rfl d_O_when_32 <|
  gO_21 rfl d_O_when_33 <|
  J_iload_n (i := 1) rfl rfl d_O_when_36 <|
  J_iload_n (i := 2) rfl rfl d_O_when_37 <|
  J_iload_n (i := 3) rfl rfl d_O_when_38 <|
  kO_166_i rfl rfl rfl (args := [.inl x1, .inl x2, .inl x3]) (h8) d_O_when_39 (fun r11 s9 h10 =>
  J_istore (i := 4) (ls' := [some (.inr (0, 0)), some (.inl x1), some (.inl x2), some (.inl x3), some (.inl r11)]) rfl rfl rfl d_O_when_42 <|
  J_iload (i := 4) rfl d_O_when_44 <|
  J_if_ne (tgt := 54) d_O_when_46 (by decide) (fun c12 =>
  J_iload (i := 4) rfl d_O_when_54 <|
  J_iret rfl d_O_when_56 (((h10).1 c12))) (fun c12 =>
  J_bipush (v := (-nI 3)) d_O_when_49 (by decide) <|
  J_goto (tgt := 56) d_O_when_51 (by decide) <|
  J_iret rfl d_O_when_56 (((h10).2 c12)))))) (fun c13 =>
  J_iconst (v := (-1 : Int32)) d_O_when_23 (by decide) <|
  J_iret rfl d_O_when_24 (((h5).2 c13))))))
theorem r_O_run_0 {Q : Option mV → mS → Prop} {σ : mS} {x1 x2 : Int32} (h : (x2 < (0 : Int32) → (Q (some (.inl (-nI 2))) σ)) ∧ (¬ x2 < (0 : Int32) → ((x2 ≤ (nI 300) → ((¬ (σ 1 2) = (0 : Int32) → (MU M_S_settle [.inr (2, 0)] σ (fun r s1 => r = none ∧ (MU M_T_holdsFor [.inr (3, 0), .inl x1, .inl x2] s1 (fun r s3 => ∃ r5, r = some (.inl r5) ∧ ((r5 = (0 : Int32) → (Q (some (.inl (0 : Int32))) s3)) ∧ (¬ r5 = (0 : Int32) → (Q (some (.inl (1 : Int32))) s3)))))))) ∧ ((σ 1 2) = (0 : Int32) → (Q (some (.inl (-nI 3))) σ)))) ∧ (¬ x2 ≤ (nI 300) → (Q (some (.inl (-nI 2))) σ))))) : J M_O_run Q 0 [some (.inr (0, 0)), some (.inl x1), some (.inl x2)] [] σ :=
  J_iload_n (i := 2) rfl rfl d_O_run_0 <|
  J_if_lt (tgt := 11) d_O_run_1 (by decide) (fun c9 =>
  J_bipush (v := (-nI 2)) d_O_run_11 (by decide) <|
  J_iret rfl d_O_run_13 (((h).1 c9))) (fun c9 =>
  J_iload_n (i := 2) rfl rfl d_O_run_4 <|
  J_sipush (v := (nI 300)) d_O_run_5 (by decide) <|
  J_icmp_le (tgt := 14) d_O_run_8 (by decide) (fun c8 =>
  J_aload_n (i := 0) rfl rfl d_O_run_14 <|
  gO_12 rfl d_O_run_15 <|
  gO_62 rfl d_O_run_18 <|
  J_if_ne (tgt := 27) d_O_run_21 (by decide) (fun c7 =>
  J_aload_n (i := 0) rfl rfl d_O_run_27 <|
  gO_21 rfl d_O_run_28 <|
  kO_108_v rfl rfl rfl (args := []) (((((((h).2 c9)).1 c8)).1 c7)) d_O_run_31 (fun s1 h2 =>
  J_aload_n (i := 0) rfl rfl d_O_run_34 <|
  gO_30 rfl d_O_run_35 <|
  J_iload_n (i := 1) rfl rfl d_O_run_38 <|
  J_iload_n (i := 2) rfl rfl d_O_run_39 <|
  kO_170_i rfl rfl rfl (args := [.inl x1, .inl x2]) (h2) d_O_run_40 (fun r5 s3 h4 =>
  J_if_eq (tgt := 50) d_O_run_43 (by decide) (fun c6 =>
  J_iconst (v := (0 : Int32)) d_O_run_50 (by decide) <|
  J_iret rfl d_O_run_51 (((h4).1 c6))) (fun c6 =>
  J_iconst (v := (1 : Int32)) d_O_run_46 (by decide) <|
  J_goto (tgt := 51) d_O_run_47 (by decide) <|
  J_iret rfl d_O_run_51 (((h4).2 c6)))))) (fun c7 =>
  J_bipush (v := (-nI 3)) d_O_run_24 (by decide) <|
  J_iret rfl d_O_run_26 (((((((h).2 c9)).1 c8)).2 c7)))) (fun c8 =>
  J_bipush (v := (-nI 2)) d_O_run_11 (by decide) <|
  J_iret rfl d_O_run_13 (((((h).2 c9)).2 c8))))
theorem r_O_met_0 {Q : Option mV → mS → Prop} {σ : mS} {x1 x2 : Int32} (h : MU M_P_hasName [.inr (1, 0), .inl x1, .inl x2] σ (fun r s1 => ∃ r3, r = some (.inl r3) ∧ ((¬ r3 = (0 : Int32) → (vp_in ((x1 * (nI 6)) + x2) 60 ∧ (Q (some (.inl (s1 23 ((x1 * (nI 6)) + x2).toNatClampNeg))) s1))) ∧ (r3 = (0 : Int32) → (Q (some (.inl (-1 : Int32))) s1))))) : J M_O_met Q 0 [some (.inr (0, 0)), some (.inl x1), some (.inl x2)] [] σ :=
  J_aload_n (i := 0) rfl rfl d_O_met_0 <|
  gO_12 rfl d_O_met_1 <|
  J_iload_n (i := 1) rfl rfl d_O_met_4 <|
  J_iload_n (i := 2) rfl rfl d_O_met_5 <|
  kO_101_i rfl rfl rfl (args := [.inl x1, .inl x2]) (h) d_O_met_6 (fun r3 s1 h2 =>
  J_if_ne (tgt := 14) d_O_met_9 (by decide) (fun c4 =>
  J_aload_n (i := 0) rfl rfl d_O_met_14 <|
  gO_30 rfl d_O_met_15 <|
  gO_173 rfl d_O_met_18 <|
  J_iload_n (i := 1) rfl rfl d_O_met_21 <|
  J_bipush (v := (nI 6)) d_O_met_22 (by decide) <|
  J_imul d_O_met_24 <|
  J_iload_n (i := 2) rfl rfl d_O_met_25 <|
  J_iadd d_O_met_26 <|
  J_iald (((h2).1 c4)).1 d_O_met_27 <|
  J_iret rfl d_O_met_28 ((((h2).1 c4)).2)) (fun c4 =>
  J_iconst (v := (-1 : Int32)) d_O_met_12 (by decide) <|
  J_iret rfl d_O_met_13 (((h2).2 c4))))
theorem r_O_ran_0 {Q : Option mV → mS → Prop} {σ : mS} {x1 : Int32} (h : (x1 = (0 : Int32) → (Q (some (.inl (σ 3 11))) σ)) ∧ (x1 = (1 : Int32) → (Q (some (.inl (σ 3 12))) σ)) ∧ (x1 = (nI 2) → (Q (some (.inl (σ 3 13))) σ)) ∧ (¬ x1 = (0 : Int32) → ¬ x1 = (1 : Int32) → ¬ x1 = (nI 2) → (Q (some (.inl (-nI 2))) σ))) : J M_O_ran Q 0 [some (.inr (0, 0)), some (.inl x1)] [] σ :=
  J_iload_n (i := 1) rfl rfl d_O_ran_0 <|
  Classical.byCases (p := x1 = (0 : Int32)) (fun c1 => J_tabIn (tgt := 28) c1 d_O_ran_1 (by decide) (by decide) rfl (by decide) <|
  J_aload_n (i := 0) rfl rfl d_O_ran_28 <|
  gO_30 rfl d_O_ran_29 <|
  gO_176 rfl d_O_ran_32 <|
  J_iret rfl d_O_ran_35 (((h).1 c1))) <| fun c1_0 =>
  Classical.byCases (p := x1 = (1 : Int32)) (fun c1 => J_tabIn (tgt := 36) c1 d_O_ran_1 (by decide) (by decide) rfl (by decide) <|
  J_aload_n (i := 0) rfl rfl d_O_ran_36 <|
  gO_30 rfl d_O_ran_37 <|
  gO_179 rfl d_O_ran_40 <|
  J_iret rfl d_O_ran_43 ((((h).2).1 c1))) <| fun c1_1 =>
  Classical.byCases (p := x1 = (nI 2)) (fun c1 => J_tabIn (tgt := 44) c1 d_O_ran_1 (by decide) (by decide) rfl (by decide) <|
  J_aload_n (i := 0) rfl rfl d_O_ran_44 <|
  gO_30 rfl d_O_ran_45 <|
  gO_182 rfl d_O_ran_48 <|
  J_iret rfl d_O_ran_51 (((((h).2).2).1 c1))) <| fun c1_2 =>
  J_tabOut (x := x1) (tgt := 52) (by have q0 := lv_neT (a := 0) c1_0 (by decide); have q1 := lv_neT (a := 1) c1_1 (by decide); have q2 := lv_neT (a := 2) c1_2 (by decide); omega) d_O_ran_1 (by decide) <|
  J_bipush (v := (-nI 2)) d_O_ran_52 (by decide) <|
  J_iret rfl d_O_ran_54 ((((((h).2).2).2) c1_0 c1_1 c1_2))
theorem r_O_forgetAnswers_0 {Q : Option mV → mS → Prop} {σ : mS} (h : MU M_T_forget [.inr (3, 0)] (m_up σ 2 7 (0 : Int32)) (fun r s2 => r = none ∧ (Q none s2))) : J M_O_forgetAnswers Q 0 [some (.inr (0, 0))] [] σ :=
  J_aload_n (i := 0) rfl rfl d_O_forgetAnswers_0 <|
  gO_21 rfl d_O_forgetAnswers_1 <|
  J_iconst (v := (0 : Int32)) d_O_forgetAnswers_4 (by decide) <|
  pO_185 rfl (Or.inl rfl) d_O_forgetAnswers_5 <|
  J_aload_n (i := 0) rfl rfl d_O_forgetAnswers_8 <|
  gO_30 rfl d_O_forgetAnswers_9 <|
  kO_188_v rfl rfl rfl (args := []) (h) d_O_forgetAnswers_12 (fun s2 h3 =>
  J_vret rfl d_O_forgetAnswers_15 (h3))
theorem r_O_isName_0 {Q : Option mV → mS → Prop} {σ : mS} {x0 : Int32} (h : (x0 < (0 : Int32) → (Q (some (.inl (0 : Int32))) σ)) ∧ (¬ x0 < (0 : Int32) → (((nI 6) ≤ x0 → (Q (some (.inl (0 : Int32))) σ)) ∧ (¬ (nI 6) ≤ x0 → (Q (some (.inl (1 : Int32))) σ))))) : J M_O_isName Q 0 [some (.inl x0)] [] σ :=
  J_iload_n (i := 0) rfl rfl d_O_isName_0 <|
  J_if_lt (tgt := 14) d_O_isName_1 (by decide) (fun c2 =>
  J_iconst (v := (0 : Int32)) d_O_isName_14 (by decide) <|
  J_zret rfl (Or.inl rfl) d_O_isName_15 (((h).1 c2))) (fun c2 =>
  J_iload_n (i := 0) rfl rfl d_O_isName_4 <|
  J_bipush (v := (nI 6)) d_O_isName_5 (by decide) <|
  J_icmp_ge (tgt := 14) d_O_isName_7 (by decide) (fun c1 =>
  J_iconst (v := (0 : Int32)) d_O_isName_14 (by decide) <|
  J_zret rfl (Or.inl rfl) d_O_isName_15 (((((h).2 c2)).1 c1))) (fun c1 =>
  J_iconst (v := (1 : Int32)) d_O_isName_10 (by decide) <|
  J_goto (tgt := 15) d_O_isName_11 (by decide) <|
  J_zret rfl (Or.inr rfl) d_O_isName_15 (((((h).2 c2)).2 c1))))
theorem r_O_isStatic_0 {Q : Option mV → mS → Prop} {σ : mS} {x0 : Int32} (h : (x0 < (0 : Int32) → (Q (some (.inl (0 : Int32))) σ)) ∧ (¬ x0 < (0 : Int32) → (((nI 4) ≤ x0 → (Q (some (.inl (0 : Int32))) σ)) ∧ (¬ (nI 4) ≤ x0 → (Q (some (.inl (1 : Int32))) σ))))) : J M_O_isStatic Q 0 [some (.inl x0)] [] σ :=
  J_iload_n (i := 0) rfl rfl d_O_isStatic_0 <|
  J_if_lt (tgt := 13) d_O_isStatic_1 (by decide) (fun c2 =>
  J_iconst (v := (0 : Int32)) d_O_isStatic_13 (by decide) <|
  J_zret rfl (Or.inl rfl) d_O_isStatic_14 (((h).1 c2))) (fun c2 =>
  J_iload_n (i := 0) rfl rfl d_O_isStatic_4 <|
  J_iconst (v := (nI 4)) d_O_isStatic_5 (by decide) <|
  J_icmp_ge (tgt := 13) d_O_isStatic_6 (by decide) (fun c1 =>
  J_iconst (v := (0 : Int32)) d_O_isStatic_13 (by decide) <|
  J_zret rfl (Or.inl rfl) d_O_isStatic_14 (((((h).2 c2)).1 c1))) (fun c1 =>
  J_iconst (v := (1 : Int32)) d_O_isStatic_9 (by decide) <|
  J_goto (tgt := 14) d_O_isStatic_10 (by decide) <|
  J_zret rfl (Or.inr rfl) d_O_isStatic_14 (((((h).2 c2)).2 c1))))
theorem r_O_isSignature_0 {Q : Option mV → mS → Prop} {σ : mS} {x0 : Int32} (h : (x0 < (0 : Int32) → (Q (some (.inl (0 : Int32))) σ)) ∧ (¬ x0 < (0 : Int32) → (((nI 4) ≤ x0 → (Q (some (.inl (0 : Int32))) σ)) ∧ (¬ (nI 4) ≤ x0 → (Q (some (.inl (1 : Int32))) σ))))) : J M_O_isSignature Q 0 [some (.inl x0)] [] σ :=
  J_iload_n (i := 0) rfl rfl d_O_isSignature_0 <|
  J_if_lt (tgt := 13) d_O_isSignature_1 (by decide) (fun c2 =>
  J_iconst (v := (0 : Int32)) d_O_isSignature_13 (by decide) <|
  J_zret rfl (Or.inl rfl) d_O_isSignature_14 (((h).1 c2))) (fun c2 =>
  J_iload_n (i := 0) rfl rfl d_O_isSignature_4 <|
  J_iconst (v := (nI 4)) d_O_isSignature_5 (by decide) <|
  J_icmp_ge (tgt := 13) d_O_isSignature_6 (by decide) (fun c1 =>
  J_iconst (v := (0 : Int32)) d_O_isSignature_13 (by decide) <|
  J_zret rfl (Or.inl rfl) d_O_isSignature_14 (((((h).2 c2)).1 c1))) (fun c1 =>
  J_iconst (v := (1 : Int32)) d_O_isSignature_9 (by decide) <|
  J_goto (tgt := 14) d_O_isSignature_10 (by decide) <|
  J_zret rfl (Or.inr rfl) d_O_isSignature_14 (((((h).2 c2)).2 c1))))
theorem r_O_hasBit_0 {Q : Option mV → mS → Prop} {σ : mS} {x0 x1 : Int32} (h : (((m_ushr x0 x1) &&& (1 : Int32)) = (0 : Int32) → (Q (some (.inl (0 : Int32))) σ)) ∧ (¬ ((m_ushr x0 x1) &&& (1 : Int32)) = (0 : Int32) → (Q (some (.inl (1 : Int32))) σ))) : J M_O_hasBit Q 0 [some (.inl x0), some (.inl x1)] [] σ :=
  J_iload_n (i := 0) rfl rfl d_O_hasBit_0 <|
  J_iload_n (i := 1) rfl rfl d_O_hasBit_1 <|
  J_iushr d_O_hasBit_2 <|
  J_iconst (v := (1 : Int32)) d_O_hasBit_3 (by decide) <|
  J_iand d_O_hasBit_4 <|
  J_if_eq (tgt := 12) d_O_hasBit_5 (by decide) (fun c1 =>
  J_iconst (v := (0 : Int32)) d_O_hasBit_12 (by decide) <|
  J_zret rfl (Or.inl rfl) d_O_hasBit_13 (((h).1 c1))) (fun c1 =>
  J_iconst (v := (1 : Int32)) d_O_hasBit_8 (by decide) <|
  J_goto (tgt := 13) d_O_hasBit_9 (by decide) <|
  J_zret rfl (Or.inr rfl) d_O_hasBit_13 (((h).2 c1)))
theorem r_O_namesOf_0 {Q : Option mV → mS → Prop} {σ : mS} {x0 x1 : Int32} (h : Q (some (.inl (((x0 * (nI 21)) + x1) * (nI 6)))) σ) : J M_O_namesOf Q 0 [some (.inl x0), some (.inl x1)] [] σ :=
  J_iload_n (i := 0) rfl rfl d_O_namesOf_0 <|
  J_bipush (v := (nI 21)) d_O_namesOf_1 (by decide) <|
  J_imul d_O_namesOf_3 <|
  J_iload_n (i := 1) rfl rfl d_O_namesOf_4 <|
  J_iadd d_O_namesOf_5 <|
  J_bipush (v := (nI 6)) d_O_namesOf_6 (by decide) <|
  J_imul d_O_namesOf_8 <|
  J_iret rfl d_O_namesOf_9 (h)
theorem r_O_slotPlace_0 {Q : Option mV → mS → Prop} {σ : mS} {x0 x1 : Int32} (h : Q (some (.inl (((nI 1260) + (x0 * (nI 9))) + x1))) σ) : J M_O_slotPlace Q 0 [some (.inl x0), some (.inl x1)] [] σ :=
  J_sipush (v := (nI 1260)) d_O_slotPlace_0 (by decide) <|
  J_iload_n (i := 0) rfl rfl d_O_slotPlace_3 <|
  J_bipush (v := (nI 9)) d_O_slotPlace_4 (by decide) <|
  J_imul d_O_slotPlace_6 <|
  J_iadd d_O_slotPlace_7 <|
  J_iload_n (i := 1) rfl rfl d_O_slotPlace_8 <|
  J_iadd d_O_slotPlace_9 <|
  J_iret rfl d_O_slotPlace_10 (h)
theorem r_M_isClass_0 {Q : Option mV → mS → Prop} {σ : mS} {x1 : Int32} (h : (x1 < (0 : Int32) → (Q (some (.inl (0 : Int32))) σ)) ∧ (¬ x1 < (0 : Int32) → (((σ 25 0) ≤ x1 → (Q (some (.inl (0 : Int32))) σ)) ∧ (¬ (σ 25 0) ≤ x1 → (Q (some (.inl (1 : Int32))) σ))))) : J M_M_isClass Q 0 [some (.inr (25, 0)), some (.inl x1)] [] σ :=
  J_iload_n (i := 1) rfl rfl d_M_isClass_0 <|
  J_if_lt (tgt := 16) d_M_isClass_1 (by decide) (fun c2 =>
  J_iconst (v := (0 : Int32)) d_M_isClass_16 (by decide) <|
  J_zret rfl (Or.inl rfl) d_M_isClass_17 (((h).1 c2))) (fun c2 =>
  J_iload_n (i := 1) rfl rfl d_M_isClass_4 <|
  J_aload_n (i := 0) rfl rfl d_M_isClass_5 <|
  gM_109 rfl d_M_isClass_6 <|
  J_icmp_ge (tgt := 16) d_M_isClass_9 (by decide) (fun c1 =>
  J_iconst (v := (0 : Int32)) d_M_isClass_16 (by decide) <|
  J_zret rfl (Or.inl rfl) d_M_isClass_17 (((((h).2 c2)).1 c1))) (fun c1 =>
  J_iconst (v := (1 : Int32)) d_M_isClass_12 (by decide) <|
  J_goto (tgt := 17) d_M_isClass_13 (by decide) <|
  J_zret rfl (Or.inr rfl) d_M_isClass_17 (((((h).2 c2)).2 c1))))
theorem r_M_isField_0 {Q : Option mV → mS → Prop} {σ : mS} {x1 : Int32} (h : (x1 < (0 : Int32) → (Q (some (.inl (0 : Int32))) σ)) ∧ (¬ x1 < (0 : Int32) → (((σ 25 2) ≤ x1 → (Q (some (.inl (0 : Int32))) σ)) ∧ (¬ (σ 25 2) ≤ x1 → (Q (some (.inl (1 : Int32))) σ))))) : J M_M_isField Q 0 [some (.inr (25, 0)), some (.inl x1)] [] σ :=
  J_iload_n (i := 1) rfl rfl d_M_isField_0 <|
  J_if_lt (tgt := 16) d_M_isField_1 (by decide) (fun c2 =>
  J_iconst (v := (0 : Int32)) d_M_isField_16 (by decide) <|
  J_zret rfl (Or.inl rfl) d_M_isField_17 (((h).1 c2))) (fun c2 =>
  J_iload_n (i := 1) rfl rfl d_M_isField_4 <|
  J_aload_n (i := 0) rfl rfl d_M_isField_5 <|
  gM_113 rfl d_M_isField_6 <|
  J_icmp_ge (tgt := 16) d_M_isField_9 (by decide) (fun c1 =>
  J_iconst (v := (0 : Int32)) d_M_isField_16 (by decide) <|
  J_zret rfl (Or.inl rfl) d_M_isField_17 (((((h).2 c2)).1 c1))) (fun c1 =>
  J_iconst (v := (1 : Int32)) d_M_isField_12 (by decide) <|
  J_goto (tgt := 17) d_M_isField_13 (by decide) <|
  J_zret rfl (Or.inr rfl) d_M_isField_17 (((((h).2 c2)).2 c1))))
theorem r_M_isMethod_0 {Q : Option mV → mS → Prop} {σ : mS} {x1 : Int32} (h : (x1 < (0 : Int32) → (Q (some (.inl (0 : Int32))) σ)) ∧ (¬ x1 < (0 : Int32) → (((σ 25 4) ≤ x1 → (Q (some (.inl (0 : Int32))) σ)) ∧ (¬ (σ 25 4) ≤ x1 → (Q (some (.inl (1 : Int32))) σ))))) : J M_M_isMethod Q 0 [some (.inr (25, 0)), some (.inl x1)] [] σ :=
  J_iload_n (i := 1) rfl rfl d_M_isMethod_0 <|
  J_if_lt (tgt := 16) d_M_isMethod_1 (by decide) (fun c2 =>
  J_iconst (v := (0 : Int32)) d_M_isMethod_16 (by decide) <|
  J_zret rfl (Or.inl rfl) d_M_isMethod_17 (((h).1 c2))) (fun c2 =>
  J_iload_n (i := 1) rfl rfl d_M_isMethod_4 <|
  J_aload_n (i := 0) rfl rfl d_M_isMethod_5 <|
  gM_116 rfl d_M_isMethod_6 <|
  J_icmp_ge (tgt := 16) d_M_isMethod_9 (by decide) (fun c1 =>
  J_iconst (v := (0 : Int32)) d_M_isMethod_16 (by decide) <|
  J_zret rfl (Or.inl rfl) d_M_isMethod_17 (((((h).2 c2)).1 c1))) (fun c1 =>
  J_iconst (v := (1 : Int32)) d_M_isMethod_12 (by decide) <|
  J_goto (tgt := 17) d_M_isMethod_13 (by decide) <|
  J_zret rfl (Or.inr rfl) d_M_isMethod_17 (((((h).2 c2)).2 c1))))
theorem r_M_isName_0 {Q : Option mV → mS → Prop} {σ : mS} {x0 : Int32} (h : (x0 < (0 : Int32) → (Q (some (.inl (0 : Int32))) σ)) ∧ (¬ x0 < (0 : Int32) → (((nI 6) ≤ x0 → (Q (some (.inl (0 : Int32))) σ)) ∧ (¬ (nI 6) ≤ x0 → (Q (some (.inl (1 : Int32))) σ))))) : J M_M_isName Q 0 [some (.inl x0)] [] σ :=
  J_iload_n (i := 0) rfl rfl d_M_isName_0 <|
  J_if_lt (tgt := 14) d_M_isName_1 (by decide) (fun c2 =>
  J_iconst (v := (0 : Int32)) d_M_isName_14 (by decide) <|
  J_zret rfl (Or.inl rfl) d_M_isName_15 (((h).1 c2))) (fun c2 =>
  J_iload_n (i := 0) rfl rfl d_M_isName_4 <|
  J_bipush (v := (nI 6)) d_M_isName_5 (by decide) <|
  J_icmp_ge (tgt := 14) d_M_isName_7 (by decide) (fun c1 =>
  J_iconst (v := (0 : Int32)) d_M_isName_14 (by decide) <|
  J_zret rfl (Or.inl rfl) d_M_isName_15 (((((h).2 c2)).1 c1))) (fun c1 =>
  J_iconst (v := (1 : Int32)) d_M_isName_10 (by decide) <|
  J_goto (tgt := 15) d_M_isName_11 (by decide) <|
  J_zret rfl (Or.inr rfl) d_M_isName_15 (((((h).2 c2)).2 c1))))
theorem r_M_isStatic_0 {Q : Option mV → mS → Prop} {σ : mS} {x0 : Int32} (h : (x0 < (0 : Int32) → (Q (some (.inl (0 : Int32))) σ)) ∧ (¬ x0 < (0 : Int32) → (((nI 4) ≤ x0 → (Q (some (.inl (0 : Int32))) σ)) ∧ (¬ (nI 4) ≤ x0 → (Q (some (.inl (1 : Int32))) σ))))) : J M_M_isStatic Q 0 [some (.inl x0)] [] σ :=
  J_iload_n (i := 0) rfl rfl d_M_isStatic_0 <|
  J_if_lt (tgt := 13) d_M_isStatic_1 (by decide) (fun c2 =>
  J_iconst (v := (0 : Int32)) d_M_isStatic_13 (by decide) <|
  J_zret rfl (Or.inl rfl) d_M_isStatic_14 (((h).1 c2))) (fun c2 =>
  J_iload_n (i := 0) rfl rfl d_M_isStatic_4 <|
  J_iconst (v := (nI 4)) d_M_isStatic_5 (by decide) <|
  J_icmp_ge (tgt := 13) d_M_isStatic_6 (by decide) (fun c1 =>
  J_iconst (v := (0 : Int32)) d_M_isStatic_13 (by decide) <|
  J_zret rfl (Or.inl rfl) d_M_isStatic_14 (((((h).2 c2)).1 c1))) (fun c1 =>
  J_iconst (v := (1 : Int32)) d_M_isStatic_9 (by decide) <|
  J_goto (tgt := 14) d_M_isStatic_10 (by decide) <|
  J_zret rfl (Or.inr rfl) d_M_isStatic_14 (((((h).2 c2)).2 c1))))
theorem r_M_isUnder_0 {Q : Option mV → mS → Prop} {σ : mS} {x1 x2 : Int32} (h : J M_M_isUnder Q 2 [some (.inr (25, 0)), some (.inl x1), some (.inl x2), some (.inl x1)] [] σ) : J M_M_isUnder Q 0 [some (.inr (25, 0)), some (.inl x1), some (.inl x2), none] [] σ :=
  J_iload_n (i := 1) rfl rfl d_M_isUnder_0 <|
  J_istore_n (i := 3) (ls' := [some (.inr (25, 0)), some (.inl x1), some (.inl x2), some (.inl x1)]) rfl rfl rfl rfl d_M_isUnder_1 <|
  h
theorem r_M_isUnder_2 {Q : Option mV → mS → Prop} {σ : mS} {x2 x3 : Int32} {u1 : Option mV} (h : (x3 < (0 : Int32) → ((x3 < (0 : Int32) → (Q (some (.inl (0 : Int32))) σ)) ∧ (¬ x3 < (0 : Int32) → (Q (some (.inl (1 : Int32))) σ)))) ∧ (¬ x3 < (0 : Int32) → ((x3 = x2 → ((x3 < (0 : Int32) → (Q (some (.inl (0 : Int32))) σ)) ∧ (¬ x3 < (0 : Int32) → (Q (some (.inl (1 : Int32))) σ)))) ∧ (¬ x3 = x2 → (vp_in x3 8 ∧ (J M_M_isUnder Q 2 [some (.inr (25, 0)), u1, some (.inl x2), some (.inl (σ 26 x3.toNatClampNeg))] [] σ)))))) : J M_M_isUnder Q 2 [some (.inr (25, 0)), u1, some (.inl x2), some (.inl x3)] [] σ :=
  J_iload_n (i := 3) rfl rfl d_M_isUnder_2 <|
  J_if_lt (tgt := 21) d_M_isUnder_3 (by decide) (fun c5 =>
  J_iload_n (i := 3) rfl rfl d_M_isUnder_21 <|
  J_if_lt (tgt := 29) d_M_isUnder_22 (by decide) (fun c1 =>
  J_iconst (v := (0 : Int32)) d_M_isUnder_29 (by decide) <|
  J_zret rfl (Or.inl rfl) d_M_isUnder_30 (((((h).1 c5)).1 c1))) (fun c1 =>
  J_iconst (v := (1 : Int32)) d_M_isUnder_25 (by decide) <|
  J_goto (tgt := 30) d_M_isUnder_26 (by decide) <|
  J_zret rfl (Or.inr rfl) d_M_isUnder_30 (((((h).1 c5)).2 c1)))) (fun c5 =>
  J_iload_n (i := 3) rfl rfl d_M_isUnder_6 <|
  J_iload_n (i := 2) rfl rfl d_M_isUnder_7 <|
  J_icmp_eq (tgt := 21) d_M_isUnder_8 (by decide) (fun c4 =>
  J_iload_n (i := 3) rfl rfl d_M_isUnder_21 <|
  J_if_lt (tgt := 29) d_M_isUnder_22 (by decide) (fun c2 =>
  J_iconst (v := (0 : Int32)) d_M_isUnder_29 (by decide) <|
  J_zret rfl (Or.inl rfl) d_M_isUnder_30 (((((((h).2 c5)).1 c4)).1 c2))) (fun c2 =>
  J_iconst (v := (1 : Int32)) d_M_isUnder_25 (by decide) <|
  J_goto (tgt := 30) d_M_isUnder_26 (by decide) <|
  J_zret rfl (Or.inr rfl) d_M_isUnder_30 (((((((h).2 c5)).1 c4)).2 c2)))) (fun c4 =>
  J_aload_n (i := 0) rfl rfl d_M_isUnder_11 <|
  gM_7 rfl d_M_isUnder_12 <|
  J_iload_n (i := 3) rfl rfl d_M_isUnder_15 <|
  J_iald (((((h).2 c5)).2 c4)).1 d_M_isUnder_16 <|
  J_istore_n (i := 3) (ls' := [some (.inr (25, 0)), u1, some (.inl x2), some (.inl (σ 26 x3.toNatClampNeg))]) rfl rfl rfl rfl d_M_isUnder_17 <|
  J_goto (tgt := 2) d_M_isUnder_18 (by decide) <|
  (((((h).2 c5)).2 c4)).2))
theorem r_M_hasField_0 {Q : Option mV → mS → Prop} {σ : mS} {x1 x2 : Int32} (h : vp_in x1 20 ∧ (vp_in x2 8 ∧ (MU M_M_isUnder [.inr (25, 0), .inl (σ 38 x1.toNatClampNeg), .inl (σ 27 x2.toNatClampNeg)] σ (fun r s1 => ∃ r3, r = some (.inl r3) ∧ ((r3 = 0 ∨ r3 = 1) ∧ Q (some (.inl r3)) s1))))) : J M_M_hasField Q 0 [some (.inr (25, 0)), some (.inl x1), some (.inl x2)] [] σ :=
  J_aload_n (i := 0) rfl rfl d_M_hasField_0 <|
  J_aload_n (i := 0) rfl rfl d_M_hasField_1 <|
  gM_46 rfl d_M_hasField_2 <|
  J_iload_n (i := 1) rfl rfl d_M_hasField_5 <|
  J_iald (h).1 d_M_hasField_6 <|
  J_aload_n (i := 0) rfl rfl d_M_hasField_7 <|
  gM_13 rfl d_M_hasField_8 <|
  J_iload_n (i := 2) rfl rfl d_M_hasField_11 <|
  J_iald ((h).2).1 d_M_hasField_12 <|
  kM_119_i rfl rfl rfl (args := [.inl (σ 38 x1.toNatClampNeg), .inl (σ 27 x2.toNatClampNeg)]) (((h).2).2) d_M_hasField_13 (fun r3 s1 h2 =>
  J_zret rfl (h2).1 d_M_hasField_16 (h2).2)
theorem r_M_methodWith_0 {Q : Option mV → mS → Prop} {σ : mS} {x1 x2 : Int32} (h : J M_M_methodWith Q 2 [some (.inr (25, 0)), some (.inl x1), some (.inl x2), some (.inl (0 : Int32))] [] σ) : J M_M_methodWith Q 0 [some (.inr (25, 0)), some (.inl x1), some (.inl x2), none] [] σ :=
  J_iconst (v := (0 : Int32)) d_M_methodWith_0 (by decide) <|
  J_istore_n (i := 3) (ls' := [some (.inr (25, 0)), some (.inl x1), some (.inl x2), some (.inl (0 : Int32))]) rfl rfl rfl rfl d_M_methodWith_1 <|
  h
theorem r_M_methodWith_2 {Q : Option mV → mS → Prop} {σ : mS} {x1 x2 x3 : Int32} (h : ((σ 25 4) ≤ x3 → (Q (some (.inl (-1 : Int32))) σ)) ∧ (¬ (σ 25 4) ≤ x3 → (vp_in x3 10 ∧ ((¬ (σ 28 x3.toNatClampNeg) = x1 → (J M_M_methodWith Q 2 [some (.inr (25, 0)), some (.inl x1), some (.inl x2), some (.inl (x3 + 1))] [] σ)) ∧ ((σ 28 x3.toNatClampNeg) = x1 → (vp_in x3 10 ∧ ((¬ (σ 29 x3.toNatClampNeg) = x2 → (J M_M_methodWith Q 2 [some (.inr (25, 0)), some (.inl x1), some (.inl x2), some (.inl (x3 + 1))] [] σ)) ∧ ((σ 29 x3.toNatClampNeg) = x2 → (Q (some (.inl x3)) σ))))))))) : J M_M_methodWith Q 2 [some (.inr (25, 0)), some (.inl x1), some (.inl x2), some (.inl x3)] [] σ :=
  J_iload_n (i := 3) rfl rfl d_M_methodWith_2 <|
  J_aload_n (i := 0) rfl rfl d_M_methodWith_3 <|
  gM_116 rfl d_M_methodWith_4 <|
  J_icmp_ge (tgt := 38) d_M_methodWith_7 (by decide) (fun c3 =>
  J_iconst (v := (-1 : Int32)) d_M_methodWith_38 (by decide) <|
  J_iret rfl d_M_methodWith_39 (((h).1 c3))) (fun c3 =>
  J_aload_n (i := 0) rfl rfl d_M_methodWith_10 <|
  gM_16 rfl d_M_methodWith_11 <|
  J_iload_n (i := 3) rfl rfl d_M_methodWith_14 <|
  J_iald (((h).2 c3)).1 d_M_methodWith_15 <|
  J_iload_n (i := 1) rfl rfl d_M_methodWith_16 <|
  J_icmp_ne (tgt := 32) d_M_methodWith_17 (by decide) (fun c2 =>
  J_iinc (i := 3) (v := (x3 + 1)) (ls' := [some (.inr (25, 0)), some (.inl x1), some (.inl x2), some (.inl (x3 + 1))]) rfl rfl rfl rfl rfl d_M_methodWith_32 <|
  J_goto (tgt := 2) d_M_methodWith_35 (by decide) <|
  (((((h).2 c3)).2).1 c2)) (fun c2 =>
  J_aload_n (i := 0) rfl rfl d_M_methodWith_20 <|
  gM_19 rfl d_M_methodWith_21 <|
  J_iload_n (i := 3) rfl rfl d_M_methodWith_24 <|
  J_iald ((((((h).2 c3)).2).2 c2)).1 d_M_methodWith_25 <|
  J_iload_n (i := 2) rfl rfl d_M_methodWith_26 <|
  J_icmp_ne (tgt := 32) d_M_methodWith_27 (by decide) (fun c1 =>
  J_iinc (i := 3) (v := (x3 + 1)) (ls' := [some (.inr (25, 0)), some (.inl x1), some (.inl x2), some (.inl (x3 + 1))]) rfl rfl rfl rfl rfl d_M_methodWith_32 <|
  J_goto (tgt := 2) d_M_methodWith_35 (by decide) <|
  ((((((((h).2 c3)).2).2 c2)).2).1 c1)) (fun c1 =>
  J_iload_n (i := 3) rfl rfl d_M_methodWith_30 <|
  J_iret rfl d_M_methodWith_31 (((((((((h).2 c3)).2).2 c2)).2).2 c1)))))
theorem r_M_found_0 {Q : Option mV → mS → Prop} {σ : mS} {x1 x2 : Int32} (h : J M_M_found Q 2 [some (.inr (25, 0)), some (.inl x1), some (.inl x2), some (.inl x1), none] [] σ) : J M_M_found Q 0 [some (.inr (25, 0)), some (.inl x1), some (.inl x2), none, none] [] σ :=
  J_iload_n (i := 1) rfl rfl d_M_found_0 <|
  J_istore_n (i := 3) (ls' := [some (.inr (25, 0)), some (.inl x1), some (.inl x2), some (.inl x1), none]) rfl rfl rfl rfl d_M_found_1 <|
  h
theorem r_M_found_2 {Q : Option mV → mS → Prop} {σ : mS} {x2 x3 : Int32} {u1 u4 : Option mV} (h : (x3 < (0 : Int32) → (Q (some (.inl (-1 : Int32))) σ)) ∧ (¬ x3 < (0 : Int32) → (MU M_M_methodWith [.inr (25, 0), .inl x3, .inl x2] σ (fun r s1 => ∃ r3, r = some (.inl r3) ∧ ((r3 < (0 : Int32) → (vp_in x3 8 ∧ (J M_M_found Q 2 [some (.inr (25, 0)), u1, some (.inl x2), some (.inl (s1 26 x3.toNatClampNeg)), some (.inl r3)] [] s1))) ∧ (¬ r3 < (0 : Int32) → (Q (some (.inl r3)) s1))))))) : J M_M_found Q 2 [some (.inr (25, 0)), u1, some (.inl x2), some (.inl x3), u4] [] σ :=
  J_iload_n (i := 3) rfl rfl d_M_found_2 <|
  J_if_lt (tgt := 32) d_M_found_3 (by decide) (fun c6 =>
  J_iconst (v := (-1 : Int32)) d_M_found_32 (by decide) <|
  J_iret rfl d_M_found_33 (((h).1 c6))) (fun c6 =>
  J_aload_n (i := 0) rfl rfl d_M_found_6 <|
  J_iload_n (i := 3) rfl rfl d_M_found_7 <|
  J_iload_n (i := 2) rfl rfl d_M_found_8 <|
  kM_123_i rfl rfl rfl (args := [.inl x3, .inl x2]) (((h).2 c6)) d_M_found_9 (fun r3 s1 h2 =>
  J_istore (i := 4) (ls' := [some (.inr (25, 0)), u1, some (.inl x2), some (.inl x3), some (.inl r3)]) rfl rfl rfl d_M_found_12 <|
  J_iload (i := 4) rfl d_M_found_14 <|
  J_if_lt (tgt := 22) d_M_found_16 (by decide) (fun c5 =>
  J_aload_n (i := 0) rfl rfl d_M_found_22 <|
  gM_7 rfl d_M_found_23 <|
  J_iload_n (i := 3) rfl rfl d_M_found_26 <|
  J_iald (((h2).1 c5)).1 d_M_found_27 <|
  J_istore_n (i := 3) (ls' := [some (.inr (25, 0)), u1, some (.inl x2), some (.inl (s1 26 x3.toNatClampNeg)), some (.inl r3)]) rfl rfl rfl rfl d_M_found_28 <|
  J_goto (tgt := 2) d_M_found_29 (by decide) <|
  (((h2).1 c5)).2) (fun c5 =>
  J_iload (i := 4) rfl d_M_found_19 <|
  J_iret rfl d_M_found_21 (((h2).2 c5)))))
theorem r_M_change_0 {Q : Option mV → mS → Prop} {σ : mS} (h : MU M_M_forgetRun [.inr (25, 0)] (m_up σ 25 19 (0 : Int32)) (fun r s2 => r = none ∧ (Q none s2))) : J M_M_change Q 0 [some (.inr (25, 0))] [] σ :=
  J_aload_n (i := 0) rfl rfl d_M_change_0 <|
  J_iconst (v := (0 : Int32)) d_M_change_1 (by decide) <|
  pM_127 rfl (Or.inl rfl) d_M_change_2 <|
  J_aload_n (i := 0) rfl rfl d_M_change_5 <|
  kM_131_v rfl rfl rfl (args := []) (h) d_M_change_6 (fun s2 h3 =>
  J_vret rfl d_M_change_9 (h3))
theorem r_M_cls_0 {Q : Option mV → mS → Prop} {σ : mS} {x1 : Int32} (h : (x1 < (-1 : Int32) → (Q (some (.inl (-1 : Int32))) σ)) ∧ (¬ x1 < (-1 : Int32) → ((x1 < (σ 25 0) → ((¬ (σ 25 0) = (nI 8) → (vp_in (σ 25 0) 8 ∧ (∀ t1, t1 = (m_up σ 26 (σ 25 0).toNatClampNeg x1) → (MU M_M_change [.inr (25, 0)] (m_up t1 25 0 ((t1 25 0) + (1 : Int32))) (fun r s3 => r = none ∧ (Q (some (.inl ((s3 25 0) - (1 : Int32)))) s3)))))) ∧ ((σ 25 0) = (nI 8) → (Q (some (.inl (-nI 4))) σ)))) ∧ (¬ x1 < (σ 25 0) → (Q (some (.inl (-1 : Int32))) σ))))) : J M_M_cls Q 0 [some (.inr (25, 0)), some (.inl x1)] [] σ :=
  J_iload_n (i := 1) rfl rfl d_M_cls_0 <|
  J_iconst (v := (-1 : Int32)) d_M_cls_1 (by decide) <|
  J_icmp_lt (tgt := 13) d_M_cls_2 (by decide) (fun c7 =>
  J_iconst (v := (-1 : Int32)) d_M_cls_13 (by decide) <|
  J_iret rfl d_M_cls_14 (((h).1 c7))) (fun c7 =>
  J_iload_n (i := 1) rfl rfl d_M_cls_5 <|
  J_aload_n (i := 0) rfl rfl d_M_cls_6 <|
  gM_109 rfl d_M_cls_7 <|
  J_icmp_lt (tgt := 15) d_M_cls_10 (by decide) (fun c6 =>
  J_aload_n (i := 0) rfl rfl d_M_cls_15 <|
  gM_109 rfl d_M_cls_16 <|
  J_bipush (v := (nI 8)) d_M_cls_19 (by decide) <|
  J_icmp_ne (tgt := 27) d_M_cls_21 (by decide) (fun c5 =>
  J_aload_n (i := 0) rfl rfl d_M_cls_27 <|
  gM_7 rfl d_M_cls_28 <|
  J_aload_n (i := 0) rfl rfl d_M_cls_31 <|
  gM_109 rfl d_M_cls_32 <|
  J_iload_n (i := 1) rfl rfl d_M_cls_35 <|
  J_iast (((((((h).2 c7)).1 c6)).1 c5)).1 d_M_cls_36 <|
  J_names (fun t1 et1 =>
  J_aload_n (i := 0) rfl rfl d_M_cls_37 <|
  J_dup d_M_cls_38 <|
  gM_109 rfl d_M_cls_39 <|
  J_iconst (v := (1 : Int32)) d_M_cls_42 (by decide) <|
  J_iadd d_M_cls_43 <|
  pM_109 rfl d_M_cls_44 <|
  J_aload_n (i := 0) rfl rfl d_M_cls_47 <|
  kM_134_v rfl rfl rfl (args := []) ((((((((((h).2 c7)).1 c6)).1 c5)).2) t1 et1)) d_M_cls_48 (fun s3 h4 =>
  J_aload_n (i := 0) rfl rfl d_M_cls_51 <|
  gM_109 rfl d_M_cls_52 <|
  J_iconst (v := (1 : Int32)) d_M_cls_55 (by decide) <|
  J_isub d_M_cls_56 <|
  J_iret rfl d_M_cls_57 (h4)))) (fun c5 =>
  J_bipush (v := (-nI 4)) d_M_cls_24 (by decide) <|
  J_iret rfl d_M_cls_26 (((((((h).2 c7)).1 c6)).2 c5)))) (fun c6 =>
  J_iconst (v := (-1 : Int32)) d_M_cls_13 (by decide) <|
  J_iret rfl d_M_cls_14 (((((h).2 c7)).2 c6))))
