theorem d_P_addStatement_0 : decode prog_2_method_16_code 0 = .ok (.aload_n 0, 1) := by decide +kernel
theorem d_P_addStatement_1 : decode prog_2_method_16_code 1 = .ok (.dup, 1) := by decide +kernel
theorem d_P_addStatement_2 : decode prog_2_method_16_code 2 = .ok (.getfield 63, 3) := by decide +kernel
theorem d_P_addStatement_5 : decode prog_2_method_16_code 5 = .ok (.dup_x1, 1) := by decide +kernel
theorem d_P_addStatement_6 : decode prog_2_method_16_code 6 = .ok (.iconst 1, 1) := by decide +kernel
theorem d_P_addStatement_7 : decode prog_2_method_16_code 7 = .ok (.iadd, 1) := by decide +kernel
theorem d_P_addStatement_8 : decode prog_2_method_16_code 8 = .ok (.putfield 63, 3) := by decide +kernel
theorem d_P_addStatement_11 : decode prog_2_method_16_code 11 = .ok (.istore_n 2, 1) := by decide +kernel
theorem d_P_addStatement_12 : decode prog_2_method_16_code 12 = .ok (.aload_n 0, 1) := by decide +kernel
theorem d_P_addStatement_13 : decode prog_2_method_16_code 13 = .ok (.getfield 35, 3) := by decide +kernel
theorem d_P_addStatement_16 : decode prog_2_method_16_code 16 = .ok (.iload_n 2, 1) := by decide +kernel
theorem d_P_addStatement_17 : decode prog_2_method_16_code 17 = .ok (.aaload, 1) := by decide +kernel
theorem d_P_addStatement_18 : decode prog_2_method_16_code 18 = .ok (.astore_n 3, 1) := by decide +kernel
theorem d_P_addStatement_19 : decode prog_2_method_16_code 19 = .ok (.aload_n 3, 1) := by decide +kernel
theorem d_P_addStatement_20 : decode prog_2_method_16_code 20 = .ok (.iload_n 1, 1) := by decide +kernel
theorem d_P_addStatement_21 : decode prog_2_method_16_code 21 = .ok (.putfield 82, 3) := by decide +kernel
theorem d_P_addStatement_24 : decode prog_2_method_16_code 24 = .ok (.aload_n 0, 1) := by decide +kernel
theorem d_P_addStatement_25 : decode prog_2_method_16_code 25 = .ok (.getfield 42, 3) := by decide +kernel
theorem d_P_addStatement_28 : decode prog_2_method_16_code 28 = .ok (.iload_n 1, 1) := by decide +kernel
theorem d_P_addStatement_29 : decode prog_2_method_16_code 29 = .ok (.bipush 60, 2) := by decide +kernel
theorem d_P_addStatement_31 : decode prog_2_method_16_code 31 = .ok (.imul, 1) := by decide +kernel
theorem d_P_addStatement_32 : decode prog_2_method_16_code 32 = .ok (.aload_n 0, 1) := by decide +kernel
theorem d_P_addStatement_33 : decode prog_2_method_16_code 33 = .ok (.getfield 39, 3) := by decide +kernel
theorem d_P_addStatement_36 : decode prog_2_method_16_code 36 = .ok (.iload_n 1, 1) := by decide +kernel
theorem d_P_addStatement_37 : decode prog_2_method_16_code 37 = .ok (.iaload, 1) := by decide +kernel
theorem d_P_addStatement_38 : decode prog_2_method_16_code 38 = .ok (.iadd, 1) := by decide +kernel
theorem d_P_addStatement_39 : decode prog_2_method_16_code 39 = .ok (.iload_n 2, 1) := by decide +kernel
theorem d_P_addStatement_40 : decode prog_2_method_16_code 40 = .ok (.iastore, 1) := by decide +kernel
theorem d_P_addStatement_41 : decode prog_2_method_16_code 41 = .ok (.aload_n 0, 1) := by decide +kernel
theorem d_P_addStatement_42 : decode prog_2_method_16_code 42 = .ok (.getfield 39, 3) := by decide +kernel
theorem d_P_addStatement_45 : decode prog_2_method_16_code 45 = .ok (.iload_n 1, 1) := by decide +kernel
theorem d_P_addStatement_46 : decode prog_2_method_16_code 46 = .ok (.dup2, 1) := by decide +kernel
theorem d_P_addStatement_47 : decode prog_2_method_16_code 47 = .ok (.iaload, 1) := by decide +kernel
theorem d_P_addStatement_48 : decode prog_2_method_16_code 48 = .ok (.iconst 1, 1) := by decide +kernel
theorem d_P_addStatement_49 : decode prog_2_method_16_code 49 = .ok (.iadd, 1) := by decide +kernel
theorem d_P_addStatement_50 : decode prog_2_method_16_code 50 = .ok (.iastore, 1) := by decide +kernel
theorem d_P_addStatement_51 : decode prog_2_method_16_code 51 = .ok (.aload_n 3, 1) := by decide +kernel
theorem d_P_addStatement_52 : decode prog_2_method_16_code 52 = .ok (.getfield 85, 3) := by decide +kernel
theorem d_P_addStatement_55 : decode prog_2_method_16_code 55 = .ok (.ifCond .ne 15, 3) := by decide +kernel
theorem d_P_addStatement_58 : decode prog_2_method_16_code 58 = .ok (.aload_n 3, 1) := by decide +kernel
theorem d_P_addStatement_59 : decode prog_2_method_16_code 59 = .ok (.aload_n 0, 1) := by decide +kernel
theorem d_P_addStatement_60 : decode prog_2_method_16_code 60 = .ok (.aload_n 3, 1) := by decide +kernel
theorem d_P_addStatement_61 : decode prog_2_method_16_code 61 = .ok (.getfield 88, 3) := by decide +kernel
theorem d_P_addStatement_64 : decode prog_2_method_16_code 64 = .ok (.invokevirtual 91, 3) := by decide +kernel
theorem d_P_addStatement_67 : decode prog_2_method_16_code 67 = .ok (.putfield 95, 3) := by decide +kernel
theorem d_P_addStatement_70 : decode prog_2_method_16_code 70 = .ok (.iload_n 2, 1) := by decide +kernel
theorem d_P_addStatement_71 : decode prog_2_method_16_code 71 = .ok (.ireturn, 1) := by decide +kernel
theorem d_P_addSite_0 : decode prog_2_method_17_code 0 = .ok (.aload_n 0, 1) := by decide +kernel
theorem d_P_addSite_1 : decode prog_2_method_17_code 1 = .ok (.dup, 1) := by decide +kernel
theorem d_P_addSite_2 : decode prog_2_method_17_code 2 = .ok (.getfield 66, 3) := by decide +kernel
theorem d_P_addSite_5 : decode prog_2_method_17_code 5 = .ok (.dup_x1, 1) := by decide +kernel
theorem d_P_addSite_6 : decode prog_2_method_17_code 6 = .ok (.iconst 1, 1) := by decide +kernel
theorem d_P_addSite_7 : decode prog_2_method_17_code 7 = .ok (.iadd, 1) := by decide +kernel
theorem d_P_addSite_8 : decode prog_2_method_17_code 8 = .ok (.putfield 66, 3) := by decide +kernel
theorem d_P_addSite_11 : decode prog_2_method_17_code 11 = .ok (.istore_n 2, 1) := by decide +kernel
theorem d_P_addSite_12 : decode prog_2_method_17_code 12 = .ok (.aload_n 0, 1) := by decide +kernel
theorem d_P_addSite_13 : decode prog_2_method_17_code 13 = .ok (.getfield 30, 3) := by decide +kernel
theorem d_P_addSite_16 : decode prog_2_method_17_code 16 = .ok (.iload_n 2, 1) := by decide +kernel
theorem d_P_addSite_17 : decode prog_2_method_17_code 17 = .ok (.iload_n 1, 1) := by decide +kernel
theorem d_P_addSite_18 : decode prog_2_method_17_code 18 = .ok (.iastore, 1) := by decide +kernel
theorem d_P_addSite_19 : decode prog_2_method_17_code 19 = .ok (.iconst 0, 1) := by decide +kernel
theorem d_P_addSite_20 : decode prog_2_method_17_code 20 = .ok (.istore_n 3, 1) := by decide +kernel
theorem d_P_addSite_21 : decode prog_2_method_17_code 21 = .ok (.iload_n 3, 1) := by decide +kernel
theorem d_P_addSite_22 : decode prog_2_method_17_code 22 = .ok (.iload_n 1, 1) := by decide +kernel
theorem d_P_addSite_23 : decode prog_2_method_17_code 23 = .ok (.if_icmp .gt 34, 3) := by decide +kernel
theorem d_P_addSite_26 : decode prog_2_method_17_code 26 = .ok (.aload_n 0, 1) := by decide +kernel
theorem d_P_addSite_27 : decode prog_2_method_17_code 27 = .ok (.getfield 15, 3) := by decide +kernel
theorem d_P_addSite_30 : decode prog_2_method_17_code 30 = .ok (.iload_n 1, 1) := by decide +kernel
theorem d_P_addSite_31 : decode prog_2_method_17_code 31 = .ok (.iaload, 1) := by decide +kernel
theorem d_P_addSite_32 : decode prog_2_method_17_code 32 = .ok (.iload_n 3, 1) := by decide +kernel
theorem d_P_addSite_33 : decode prog_2_method_17_code 33 = .ok (.invokestatic 98, 3) := by decide +kernel
theorem d_P_addSite_36 : decode prog_2_method_17_code 36 = .ok (.ifCond .eq 15, 3) := by decide +kernel
theorem d_P_addSite_39 : decode prog_2_method_17_code 39 = .ok (.aload_n 0, 1) := by decide +kernel
theorem d_P_addSite_40 : decode prog_2_method_17_code 40 = .ok (.getfield 18, 3) := by decide +kernel
theorem d_P_addSite_43 : decode prog_2_method_17_code 43 = .ok (.iload_n 3, 1) := by decide +kernel
theorem d_P_addSite_44 : decode prog_2_method_17_code 44 = .ok (.dup2, 1) := by decide +kernel
theorem d_P_addSite_45 : decode prog_2_method_17_code 45 = .ok (.iaload, 1) := by decide +kernel
theorem d_P_addSite_46 : decode prog_2_method_17_code 46 = .ok (.iconst 1, 1) := by decide +kernel
theorem d_P_addSite_47 : decode prog_2_method_17_code 47 = .ok (.iload_n 2, 1) := by decide +kernel
theorem d_P_addSite_48 : decode prog_2_method_17_code 48 = .ok (.ishl, 1) := by decide +kernel
theorem d_P_addSite_49 : decode prog_2_method_17_code 49 = .ok (.ior, 1) := by decide +kernel
theorem d_P_addSite_50 : decode prog_2_method_17_code 50 = .ok (.iastore, 1) := by decide +kernel
theorem d_P_addSite_51 : decode prog_2_method_17_code 51 = .ok (.iinc 3 1, 3) := by decide +kernel
theorem d_P_addSite_54 : decode prog_2_method_17_code 54 = .ok (.goto (-33), 3) := by decide +kernel
theorem d_P_addSite_57 : decode prog_2_method_17_code 57 = .ok (.iload_n 2, 1) := by decide +kernel
theorem d_P_addSite_58 : decode prog_2_method_17_code 58 = .ok (.ireturn, 1) := by decide +kernel
theorem d_P_ownMethod_0 : decode prog_2_method_18_code 0 = .ok (.aload_n 0, 1) := by decide +kernel
theorem d_P_ownMethod_1 : decode prog_2_method_18_code 1 = .ok (.getfield 21, 3) := by decide +kernel
theorem d_P_ownMethod_4 : decode prog_2_method_18_code 4 = .ok (.iload_n 1, 1) := by decide +kernel
theorem d_P_ownMethod_5 : decode prog_2_method_18_code 5 = .ok (.iconst 4, 1) := by decide +kernel
theorem d_P_ownMethod_6 : decode prog_2_method_18_code 6 = .ok (.imul, 1) := by decide +kernel
theorem d_P_ownMethod_7 : decode prog_2_method_18_code 7 = .ok (.iload_n 2, 1) := by decide +kernel
theorem d_P_ownMethod_8 : decode prog_2_method_18_code 8 = .ok (.iadd, 1) := by decide +kernel
theorem d_P_ownMethod_9 : decode prog_2_method_18_code 9 = .ok (.iaload, 1) := by decide +kernel
theorem d_P_ownMethod_10 : decode prog_2_method_18_code 10 = .ok (.ireturn, 1) := by decide +kernel
theorem d_P_methodFound_0 : decode prog_2_method_19_code 0 = .ok (.aload_n 0, 1) := by decide +kernel
theorem d_P_methodFound_1 : decode prog_2_method_19_code 1 = .ok (.getfield 24, 3) := by decide +kernel
theorem d_P_methodFound_4 : decode prog_2_method_19_code 4 = .ok (.aload_n 0, 1) := by decide +kernel
theorem d_P_methodFound_5 : decode prog_2_method_19_code 5 = .ok (.getfield 30, 3) := by decide +kernel
theorem d_P_methodFound_8 : decode prog_2_method_19_code 8 = .ok (.iload_n 1, 1) := by decide +kernel
theorem d_P_methodFound_9 : decode prog_2_method_19_code 9 = .ok (.iaload, 1) := by decide +kernel
theorem d_P_methodFound_10 : decode prog_2_method_19_code 10 = .ok (.iconst 4, 1) := by decide +kernel
theorem d_P_methodFound_11 : decode prog_2_method_19_code 11 = .ok (.imul, 1) := by decide +kernel
theorem d_P_methodFound_12 : decode prog_2_method_19_code 12 = .ok (.iload_n 2, 1) := by decide +kernel
theorem d_P_methodFound_13 : decode prog_2_method_19_code 13 = .ok (.iadd, 1) := by decide +kernel
theorem d_P_methodFound_14 : decode prog_2_method_19_code 14 = .ok (.iaload, 1) := by decide +kernel
theorem d_P_methodFound_15 : decode prog_2_method_19_code 15 = .ok (.ireturn, 1) := by decide +kernel
theorem d_P_methodsFound_0 : decode prog_2_method_20_code 0 = .ok (.iconst 0, 1) := by decide +kernel
theorem d_P_methodsFound_1 : decode prog_2_method_20_code 1 = .ok (.istore_n 3, 1) := by decide +kernel
theorem d_P_methodsFound_2 : decode prog_2_method_20_code 2 = .ok (.iconst 0, 1) := by decide +kernel
theorem d_P_methodsFound_3 : decode prog_2_method_20_code 3 = .ok (.istore 4, 2) := by decide +kernel
theorem d_P_methodsFound_5 : decode prog_2_method_20_code 5 = .ok (.iload 4, 2) := by decide +kernel
theorem d_P_methodsFound_7 : decode prog_2_method_20_code 7 = .ok (.aload_n 0, 1) := by decide +kernel
theorem d_P_methodsFound_8 : decode prog_2_method_20_code 8 = .ok (.getfield 66, 3) := by decide +kernel
theorem d_P_methodsFound_11 : decode prog_2_method_20_code 11 = .ok (.if_icmp .ge 40, 3) := by decide +kernel
theorem d_P_methodsFound_14 : decode prog_2_method_20_code 14 = .ok (.aload_n 0, 1) := by decide +kernel
theorem d_P_methodsFound_15 : decode prog_2_method_20_code 15 = .ok (.iload 4, 2) := by decide +kernel
theorem d_P_methodsFound_17 : decode prog_2_method_20_code 17 = .ok (.iload_n 2, 1) := by decide +kernel
theorem d_P_methodsFound_18 : decode prog_2_method_20_code 18 = .ok (.invokevirtual 102, 3) := by decide +kernel
theorem d_P_methodsFound_21 : decode prog_2_method_20_code 21 = .ok (.istore 5, 2) := by decide +kernel
theorem d_P_methodsFound_23 : decode prog_2_method_20_code 23 = .ok (.iload_n 1, 1) := by decide +kernel
theorem d_P_methodsFound_24 : decode prog_2_method_20_code 24 = .ok (.iload 4, 2) := by decide +kernel
theorem d_P_methodsFound_26 : decode prog_2_method_20_code 26 = .ok (.invokestatic 98, 3) := by decide +kernel
theorem d_P_methodsFound_29 : decode prog_2_method_20_code 29 = .ok (.ifCond .eq 16, 3) := by decide +kernel
theorem d_P_methodsFound_32 : decode prog_2_method_20_code 32 = .ok (.iload 5, 2) := by decide +kernel
theorem d_P_methodsFound_34 : decode prog_2_method_20_code 34 = .ok (.iconst (-1), 1) := by decide +kernel
theorem d_P_methodsFound_35 : decode prog_2_method_20_code 35 = .ok (.if_icmp .eq 10, 3) := by decide +kernel
theorem d_P_methodsFound_38 : decode prog_2_method_20_code 38 = .ok (.iload_n 3, 1) := by decide +kernel
theorem d_P_methodsFound_39 : decode prog_2_method_20_code 39 = .ok (.iconst 1, 1) := by decide +kernel
theorem d_P_methodsFound_40 : decode prog_2_method_20_code 40 = .ok (.iload 5, 2) := by decide +kernel
theorem d_P_methodsFound_42 : decode prog_2_method_20_code 42 = .ok (.ishl, 1) := by decide +kernel
theorem d_P_methodsFound_43 : decode prog_2_method_20_code 43 = .ok (.ior, 1) := by decide +kernel
theorem d_P_methodsFound_44 : decode prog_2_method_20_code 44 = .ok (.istore_n 3, 1) := by decide +kernel
theorem d_P_methodsFound_45 : decode prog_2_method_20_code 45 = .ok (.iinc 4 1, 3) := by decide +kernel
theorem d_P_methodsFound_48 : decode prog_2_method_20_code 48 = .ok (.goto (-43), 3) := by decide +kernel
theorem d_P_methodsFound_51 : decode prog_2_method_20_code 51 = .ok (.iload_n 3, 1) := by decide +kernel
theorem d_P_methodsFound_52 : decode prog_2_method_20_code 52 = .ok (.ireturn, 1) := by decide +kernel
theorem d_P_sitesWith_0 : decode prog_2_method_21_code 0 = .ok (.iload_n 1, 1) := by decide +kernel
theorem d_P_sitesWith_1 : decode prog_2_method_21_code 1 = .ok (.bipush 8, 2) := by decide +kernel
theorem d_P_sitesWith_3 : decode prog_2_method_21_code 3 = .ok (.if_icmp .ne 14, 3) := by decide +kernel
theorem d_P_sitesWith_6 : decode prog_2_method_21_code 6 = .ok (.iconst 1, 1) := by decide +kernel
theorem d_P_sitesWith_7 : decode prog_2_method_21_code 7 = .ok (.aload_n 0, 1) := by decide +kernel
theorem d_P_sitesWith_8 : decode prog_2_method_21_code 8 = .ok (.getfield 66, 3) := by decide +kernel
theorem d_P_sitesWith_11 : decode prog_2_method_21_code 11 = .ok (.ishl, 1) := by decide +kernel
theorem d_P_sitesWith_12 : decode prog_2_method_21_code 12 = .ok (.iconst 1, 1) := by decide +kernel
theorem d_P_sitesWith_13 : decode prog_2_method_21_code 13 = .ok (.isub, 1) := by decide +kernel
theorem d_P_sitesWith_14 : decode prog_2_method_21_code 14 = .ok (.goto 14, 3) := by decide +kernel
theorem d_P_sitesWith_17 : decode prog_2_method_21_code 17 = .ok (.aload_n 0, 1) := by decide +kernel
theorem d_P_sitesWith_18 : decode prog_2_method_21_code 18 = .ok (.getfield 18, 3) := by decide +kernel
theorem d_P_sitesWith_21 : decode prog_2_method_21_code 21 = .ok (.aload_n 0, 1) := by decide +kernel
theorem d_P_sitesWith_22 : decode prog_2_method_21_code 22 = .ok (.getfield 27, 3) := by decide +kernel
theorem d_P_sitesWith_25 : decode prog_2_method_21_code 25 = .ok (.iload_n 1, 1) := by decide +kernel
theorem d_P_sitesWith_26 : decode prog_2_method_21_code 26 = .ok (.iaload, 1) := by decide +kernel
theorem d_P_sitesWith_27 : decode prog_2_method_21_code 27 = .ok (.iaload, 1) := by decide +kernel
theorem d_P_sitesWith_28 : decode prog_2_method_21_code 28 = .ok (.ireturn, 1) := by decide +kernel
theorem d_P_statementOf_0 : decode prog_2_method_22_code 0 = .ok (.aload_n 0, 1) := by decide +kernel
theorem d_P_statementOf_1 : decode prog_2_method_22_code 1 = .ok (.getfield 35, 3) := by decide +kernel
theorem d_P_statementOf_4 : decode prog_2_method_22_code 4 = .ok (.aload_n 0, 1) := by decide +kernel
theorem d_P_statementOf_5 : decode prog_2_method_22_code 5 = .ok (.getfield 42, 3) := by decide +kernel
theorem d_P_statementOf_8 : decode prog_2_method_22_code 8 = .ok (.iload_n 1, 1) := by decide +kernel
theorem d_P_statementOf_9 : decode prog_2_method_22_code 9 = .ok (.bipush 60, 2) := by decide +kernel
theorem d_P_statementOf_11 : decode prog_2_method_22_code 11 = .ok (.imul, 1) := by decide +kernel
theorem d_P_statementOf_12 : decode prog_2_method_22_code 12 = .ok (.iload_n 2, 1) := by decide +kernel
theorem d_P_statementOf_13 : decode prog_2_method_22_code 13 = .ok (.iadd, 1) := by decide +kernel
theorem d_P_statementOf_14 : decode prog_2_method_22_code 14 = .ok (.iaload, 1) := by decide +kernel
theorem d_P_statementOf_15 : decode prog_2_method_22_code 15 = .ok (.aaload, 1) := by decide +kernel
theorem d_P_statementOf_16 : decode prog_2_method_22_code 16 = .ok (.areturn, 1) := by decide +kernel
theorem d_S_hasContext_0 : decode prog_3_method_2_code 0 = .ok (.iload_n 1, 1) := by decide +kernel
theorem d_S_hasContext_1 : decode prog_3_method_2_code 1 = .ok (.ifCond .lt 29, 3) := by decide +kernel
theorem d_S_hasContext_4 : decode prog_3_method_2_code 4 = .ok (.iload_n 1, 1) := by decide +kernel
theorem d_S_hasContext_5 : decode prog_3_method_2_code 5 = .ok (.aload_n 0, 1) := by decide +kernel
theorem d_S_hasContext_6 : decode prog_3_method_2_code 6 = .ok (.getfield 25, 3) := by decide +kernel
theorem d_S_hasContext_9 : decode prog_3_method_2_code 9 = .ok (.ifCond .eq 13, 3) := by decide +kernel
theorem d_S_hasContext_12 : decode prog_3_method_2_code 12 = .ok (.aload_n 0, 1) := by decide +kernel
theorem d_S_hasContext_13 : decode prog_3_method_2_code 13 = .ok (.getfield 21, 3) := by decide +kernel
theorem d_S_hasContext_16 : decode prog_3_method_2_code 16 = .ok (.getfield 29, 3) := by decide +kernel
theorem d_S_hasContext_19 : decode prog_3_method_2_code 19 = .ok (.goto 4, 3) := by decide +kernel
theorem d_S_hasContext_22 : decode prog_3_method_2_code 22 = .ok (.iconst 0, 1) := by decide +kernel
theorem d_S_hasContext_23 : decode prog_3_method_2_code 23 = .ok (.if_icmp .gt 7, 3) := by decide +kernel
theorem d_S_hasContext_26 : decode prog_3_method_2_code 26 = .ok (.iconst 1, 1) := by decide +kernel
theorem d_S_hasContext_27 : decode prog_3_method_2_code 27 = .ok (.goto 4, 3) := by decide +kernel
theorem d_S_hasContext_30 : decode prog_3_method_2_code 30 = .ok (.iconst 0, 1) := by decide +kernel
theorem d_S_hasContext_31 : decode prog_3_method_2_code 31 = .ok (.ireturn, 1) := by decide +kernel
theorem d_S_contextOf_0 : decode prog_3_method_3_code 0 = .ok (.aload_n 0, 1) := by decide +kernel
theorem d_S_contextOf_1 : decode prog_3_method_3_code 1 = .ok (.getfield 25, 3) := by decide +kernel
theorem d_S_contextOf_4 : decode prog_3_method_3_code 4 = .ok (.ifCond .eq 9, 3) := by decide +kernel
theorem d_S_contextOf_7 : decode prog_3_method_3_code 7 = .ok (.iconst 1, 1) := by decide +kernel
theorem d_S_contextOf_8 : decode prog_3_method_3_code 8 = .ok (.iload_n 1, 1) := by decide +kernel
theorem d_S_contextOf_9 : decode prog_3_method_3_code 9 = .ok (.iadd, 1) := by decide +kernel
theorem d_S_contextOf_10 : decode prog_3_method_3_code 10 = .ok (.goto 4, 3) := by decide +kernel
theorem d_S_contextOf_13 : decode prog_3_method_3_code 13 = .ok (.iconst 0, 1) := by decide +kernel
theorem d_S_contextOf_14 : decode prog_3_method_3_code 14 = .ok (.ireturn, 1) := by decide +kernel
theorem d_S_at_0 : decode prog_3_method_4_code 0 = .ok (.aload_n 0, 1) := by decide +kernel
theorem d_S_at_1 : decode prog_3_method_4_code 1 = .ok (.getfield 15, 3) := by decide +kernel
theorem d_S_at_4 : decode prog_3_method_4_code 4 = .ok (.iload_n 1, 1) := by decide +kernel
theorem d_S_at_5 : decode prog_3_method_4_code 5 = .ok (.iaload, 1) := by decide +kernel
theorem d_S_at_6 : decode prog_3_method_4_code 6 = .ok (.ireturn, 1) := by decide +kernel
theorem d_S_inAllContexts_0 : decode prog_3_method_5_code 0 = .ok (.iconst 0, 1) := by decide +kernel
theorem d_S_inAllContexts_1 : decode prog_3_method_5_code 1 = .ok (.istore_n 3, 1) := by decide +kernel
theorem d_S_inAllContexts_2 : decode prog_3_method_5_code 2 = .ok (.iconst 0, 1) := by decide +kernel
theorem d_S_inAllContexts_3 : decode prog_3_method_5_code 3 = .ok (.istore 4, 2) := by decide +kernel
theorem d_S_inAllContexts_5 : decode prog_3_method_5_code 5 = .ok (.iload 4, 2) := by decide +kernel
theorem d_S_inAllContexts_7 : decode prog_3_method_5_code 7 = .ok (.bipush 21, 2) := by decide +kernel
theorem d_S_inAllContexts_9 : decode prog_3_method_5_code 9 = .ok (.if_icmp .ge 25, 3) := by decide +kernel
theorem d_S_inAllContexts_12 : decode prog_3_method_5_code 12 = .ok (.iload_n 3, 1) := by decide +kernel
theorem d_S_inAllContexts_13 : decode prog_3_method_5_code 13 = .ok (.aload_n 0, 1) := by decide +kernel
theorem d_S_inAllContexts_14 : decode prog_3_method_5_code 14 = .ok (.getfield 15, 3) := by decide +kernel
theorem d_S_inAllContexts_17 : decode prog_3_method_5_code 17 = .ok (.iload_n 1, 1) := by decide +kernel
theorem d_S_inAllContexts_18 : decode prog_3_method_5_code 18 = .ok (.iload 4, 2) := by decide +kernel
theorem d_S_inAllContexts_20 : decode prog_3_method_5_code 20 = .ok (.invokestatic 35, 3) := by decide +kernel
theorem d_S_inAllContexts_23 : decode prog_3_method_5_code 23 = .ok (.iload_n 2, 1) := by decide +kernel
theorem d_S_inAllContexts_24 : decode prog_3_method_5_code 24 = .ok (.iadd, 1) := by decide +kernel
theorem d_S_inAllContexts_25 : decode prog_3_method_5_code 25 = .ok (.iaload, 1) := by decide +kernel
theorem d_S_inAllContexts_26 : decode prog_3_method_5_code 26 = .ok (.ior, 1) := by decide +kernel
theorem d_S_inAllContexts_27 : decode prog_3_method_5_code 27 = .ok (.istore_n 3, 1) := by decide +kernel
theorem d_S_inAllContexts_28 : decode prog_3_method_5_code 28 = .ok (.iinc 4 1, 3) := by decide +kernel
theorem d_S_inAllContexts_31 : decode prog_3_method_5_code 31 = .ok (.goto (-26), 3) := by decide +kernel
theorem d_S_inAllContexts_34 : decode prog_3_method_5_code 34 = .ok (.iload_n 3, 1) := by decide +kernel
theorem d_S_inAllContexts_35 : decode prog_3_method_5_code 35 = .ok (.ireturn, 1) := by decide +kernel
theorem d_S_firstRound_0 : decode prog_3_method_6_code 0 = .ok (.aload_n 0, 1) := by decide +kernel
theorem d_S_firstRound_1 : decode prog_3_method_6_code 1 = .ok (.getfield 18, 3) := by decide +kernel
theorem d_S_firstRound_4 : decode prog_3_method_6_code 4 = .ok (.iload_n 1, 1) := by decide +kernel
theorem d_S_firstRound_5 : decode prog_3_method_6_code 5 = .ok (.bipush 6, 2) := by decide +kernel
theorem d_S_firstRound_7 : decode prog_3_method_6_code 7 = .ok (.imul, 1) := by decide +kernel
theorem d_S_firstRound_8 : decode prog_3_method_6_code 8 = .ok (.iload_n 2, 1) := by decide +kernel
theorem d_S_firstRound_9 : decode prog_3_method_6_code 9 = .ok (.iadd, 1) := by decide +kernel
theorem d_S_firstRound_10 : decode prog_3_method_6_code 10 = .ok (.bipush 20, 2) := by decide +kernel
theorem d_S_firstRound_12 : decode prog_3_method_6_code 12 = .ok (.imul, 1) := by decide +kernel
theorem d_S_firstRound_13 : decode prog_3_method_6_code 13 = .ok (.iload_n 3, 1) := by decide +kernel
theorem d_S_firstRound_14 : decode prog_3_method_6_code 14 = .ok (.iadd, 1) := by decide +kernel
theorem d_S_firstRound_15 : decode prog_3_method_6_code 15 = .ok (.iaload, 1) := by decide +kernel
theorem d_S_firstRound_16 : decode prog_3_method_6_code 16 = .ok (.ireturn, 1) := by decide +kernel
theorem d_S_settle_0 : decode prog_3_method_7_code 0 = .ok (.aload_n 0, 1) := by decide +kernel
theorem d_S_settle_1 : decode prog_3_method_7_code 1 = .ok (.getfield 39, 3) := by decide +kernel
theorem d_S_settle_4 : decode prog_3_method_7_code 4 = .ok (.ifCond .eq 4, 3) := by decide +kernel
theorem d_S_settle_7 : decode prog_3_method_7_code 7 = .ok (.return_, 1) := by decide +kernel
theorem d_S_settle_8 : decode prog_3_method_7_code 8 = .ok (.aload_n 0, 1) := by decide +kernel
theorem d_S_settle_9 : decode prog_3_method_7_code 9 = .ok (.getfield 15, 3) := by decide +kernel
theorem d_S_settle_12 : decode prog_3_method_7_code 12 = .ok (.iconst 0, 1) := by decide +kernel
theorem d_S_settle_13 : decode prog_3_method_7_code 13 = .ok (.invokestatic 42, 3) := by decide +kernel
theorem d_S_settle_16 : decode prog_3_method_7_code 16 = .ok (.aload_n 0, 1) := by decide +kernel
theorem d_S_settle_17 : decode prog_3_method_7_code 17 = .ok (.getfield 18, 3) := by decide +kernel
theorem d_S_settle_20 : decode prog_3_method_7_code 20 = .ok (.iconst 0, 1) := by decide +kernel
theorem d_S_settle_21 : decode prog_3_method_7_code 21 = .ok (.invokestatic 42, 3) := by decide +kernel
theorem d_S_settle_24 : decode prog_3_method_7_code 24 = .ok (.aload_n 0, 1) := by decide +kernel
theorem d_S_settle_25 : decode prog_3_method_7_code 25 = .ok (.getfield 21, 3) := by decide +kernel
theorem d_S_settle_28 : decode prog_3_method_7_code 28 = .ok (.getfield 48, 3) := by decide +kernel
theorem d_S_settle_31 : decode prog_3_method_7_code 31 = .ok (.ifCond .le 12, 3) := by decide +kernel
theorem d_S_settle_34 : decode prog_3_method_7_code 34 = .ok (.aload_n 0, 1) := by decide +kernel
theorem d_S_settle_35 : decode prog_3_method_7_code 35 = .ok (.getfield 15, 3) := by decide +kernel
theorem d_S_settle_38 : decode prog_3_method_7_code 38 = .ok (.sipush 1444, 3) := by decide +kernel
theorem d_S_settle_41 : decode prog_3_method_7_code 41 = .ok (.iconst 1, 1) := by decide +kernel
theorem d_S_settle_42 : decode prog_3_method_7_code 42 = .ok (.iastore, 1) := by decide +kernel
theorem d_S_settle_43 : decode prog_3_method_7_code 43 = .ok (.aload_n 0, 1) := by decide +kernel
theorem d_S_settle_44 : decode prog_3_method_7_code 44 = .ok (.iconst 0, 1) := by decide +kernel
theorem d_S_settle_45 : decode prog_3_method_7_code 45 = .ok (.putfield 51, 3) := by decide +kernel
theorem d_S_settle_48 : decode prog_3_method_7_code 48 = .ok (.aload_n 0, 1) := by decide +kernel
theorem d_S_settle_49 : decode prog_3_method_7_code 49 = .ok (.dup, 1) := by decide +kernel
theorem d_S_settle_50 : decode prog_3_method_7_code 50 = .ok (.getfield 51, 3) := by decide +kernel
theorem d_S_settle_53 : decode prog_3_method_7_code 53 = .ok (.iconst 1, 1) := by decide +kernel
theorem d_S_settle_54 : decode prog_3_method_7_code 54 = .ok (.iadd, 1) := by decide +kernel
theorem d_S_settle_55 : decode prog_3_method_7_code 55 = .ok (.putfield 51, 3) := by decide +kernel
theorem d_S_settle_58 : decode prog_3_method_7_code 58 = .ok (.aload_n 0, 1) := by decide +kernel
theorem d_S_settle_59 : decode prog_3_method_7_code 59 = .ok (.getfield 15, 3) := by decide +kernel
theorem d_S_settle_62 : decode prog_3_method_7_code 62 = .ok (.iconst 0, 1) := by decide +kernel
theorem d_S_settle_63 : decode prog_3_method_7_code 63 = .ok (.aload_n 0, 1) := by decide +kernel
theorem d_S_settle_64 : decode prog_3_method_7_code 64 = .ok (.getfield 9, 3) := by decide +kernel
theorem d_S_settle_67 : decode prog_3_method_7_code 67 = .ok (.iconst 0, 1) := by decide +kernel
theorem d_S_settle_68 : decode prog_3_method_7_code 68 = .ok (.sipush 1454, 3) := by decide +kernel
theorem d_S_settle_71 : decode prog_3_method_7_code 71 = .ok (.invokestatic 54, 3) := by decide +kernel
theorem d_S_settle_74 : decode prog_3_method_7_code 74 = .ok (.aload_n 0, 1) := by decide +kernel
theorem d_S_settle_75 : decode prog_3_method_7_code 75 = .ok (.iconst 0, 1) := by decide +kernel
theorem d_S_settle_76 : decode prog_3_method_7_code 76 = .ok (.putfield 60, 3) := by decide +kernel
theorem d_S_settle_79 : decode prog_3_method_7_code 79 = .ok (.aload_n 0, 1) := by decide +kernel
theorem d_S_settle_80 : decode prog_3_method_7_code 80 = .ok (.invokevirtual 63, 3) := by decide +kernel
theorem d_S_settle_83 : decode prog_3_method_7_code 83 = .ok (.aload_n 0, 1) := by decide +kernel
theorem d_S_settle_84 : decode prog_3_method_7_code 84 = .ok (.getfield 60, 3) := by decide +kernel
theorem d_S_settle_87 : decode prog_3_method_7_code 87 = .ok (.ifCond .eq 12, 3) := by decide +kernel
theorem d_S_settle_90 : decode prog_3_method_7_code 90 = .ok (.aload_n 0, 1) := by decide +kernel
theorem d_S_settle_91 : decode prog_3_method_7_code 91 = .ok (.getfield 51, 3) := by decide +kernel
theorem d_S_settle_94 : decode prog_3_method_7_code 94 = .ok (.ldc 66, 2) := by decide +kernel
theorem d_S_settle_96 : decode prog_3_method_7_code 96 = .ok (.if_icmp .lt (-48), 3) := by decide +kernel
theorem d_S_settle_99 : decode prog_3_method_7_code 99 = .ok (.aload_n 0, 1) := by decide +kernel
theorem d_S_settle_100 : decode prog_3_method_7_code 100 = .ok (.aload_n 0, 1) := by decide +kernel
theorem d_S_settle_101 : decode prog_3_method_7_code 101 = .ok (.getfield 51, 3) := by decide +kernel
theorem d_S_settle_104 : decode prog_3_method_7_code 104 = .ok (.iconst 1, 1) := by decide +kernel
theorem d_S_settle_105 : decode prog_3_method_7_code 105 = .ok (.isub, 1) := by decide +kernel
theorem d_S_settle_106 : decode prog_3_method_7_code 106 = .ok (.putfield 67, 3) := by decide +kernel
theorem d_S_settle_109 : decode prog_3_method_7_code 109 = .ok (.aload_n 0, 1) := by decide +kernel
theorem d_S_settle_110 : decode prog_3_method_7_code 110 = .ok (.iconst 1, 1) := by decide +kernel
theorem d_S_settle_111 : decode prog_3_method_7_code 111 = .ok (.putfield 39, 3) := by decide +kernel
theorem d_S_settle_114 : decode prog_3_method_7_code 114 = .ok (.return_, 1) := by decide +kernel
theorem d_S_doRound_0 : decode prog_3_method_8_code 0 = .ok (.iconst 0, 1) := by decide +kernel
theorem d_S_doRound_1 : decode prog_3_method_8_code 1 = .ok (.istore_n 1, 1) := by decide +kernel
theorem d_S_doRound_2 : decode prog_3_method_8_code 2 = .ok (.iload_n 1, 1) := by decide +kernel
theorem d_S_doRound_3 : decode prog_3_method_8_code 3 = .ok (.aload_n 0, 1) := by decide +kernel
theorem d_S_doRound_4 : decode prog_3_method_8_code 4 = .ok (.getfield 21, 3) := by decide +kernel
theorem d_S_doRound_7 : decode prog_3_method_8_code 7 = .ok (.getfield 48, 3) := by decide +kernel
theorem d_S_doRound_10 : decode prog_3_method_8_code 10 = .ok (.if_icmp .ge 92, 3) := by decide +kernel
theorem d_S_doRound_13 : decode prog_3_method_8_code 13 = .ok (.aload_n 0, 1) := by decide +kernel
theorem d_S_doRound_14 : decode prog_3_method_8_code 14 = .ok (.getfield 9, 3) := by decide +kernel
theorem d_S_doRound_17 : decode prog_3_method_8_code 17 = .ok (.sipush 1444, 3) := by decide +kernel
theorem d_S_doRound_20 : decode prog_3_method_8_code 20 = .ok (.iload_n 1, 1) := by decide +kernel
theorem d_S_doRound_21 : decode prog_3_method_8_code 21 = .ok (.iadd, 1) := by decide +kernel
theorem d_S_doRound_22 : decode prog_3_method_8_code 22 = .ok (.iaload, 1) := by decide +kernel
theorem d_S_doRound_23 : decode prog_3_method_8_code 23 = .ok (.istore_n 2, 1) := by decide +kernel
theorem d_S_doRound_24 : decode prog_3_method_8_code 24 = .ok (.iconst 0, 1) := by decide +kernel
theorem d_S_doRound_25 : decode prog_3_method_8_code 25 = .ok (.istore_n 3, 1) := by decide +kernel
theorem d_S_doRound_26 : decode prog_3_method_8_code 26 = .ok (.iload_n 3, 1) := by decide +kernel
theorem d_S_doRound_27 : decode prog_3_method_8_code 27 = .ok (.bipush 21, 2) := by decide +kernel
theorem d_S_doRound_29 : decode prog_3_method_8_code 29 = .ok (.if_icmp .ge 67, 3) := by decide +kernel
theorem d_S_doRound_32 : decode prog_3_method_8_code 32 = .ok (.iload_n 2, 1) := by decide +kernel
theorem d_S_doRound_33 : decode prog_3_method_8_code 33 = .ok (.iload_n 3, 1) := by decide +kernel
theorem d_S_doRound_34 : decode prog_3_method_8_code 34 = .ok (.invokestatic 70, 3) := by decide +kernel
theorem d_S_doRound_37 : decode prog_3_method_8_code 37 = .ok (.ifCond .eq 15, 3) := by decide +kernel
theorem d_S_doRound_40 : decode prog_3_method_8_code 40 = .ok (.aload_n 0, 1) := by decide +kernel
theorem d_S_doRound_41 : decode prog_3_method_8_code 41 = .ok (.getfield 21, 3) := by decide +kernel
theorem d_S_doRound_44 : decode prog_3_method_8_code 44 = .ok (.getfield 74, 3) := by decide +kernel
theorem d_S_doRound_47 : decode prog_3_method_8_code 47 = .ok (.iload_n 1, 1) := by decide +kernel
theorem d_S_doRound_48 : decode prog_3_method_8_code 48 = .ok (.iaload, 1) := by decide +kernel
theorem d_S_doRound_49 : decode prog_3_method_8_code 49 = .ok (.goto 4, 3) := by decide +kernel
theorem d_S_doRound_52 : decode prog_3_method_8_code 52 = .ok (.iconst 0, 1) := by decide +kernel
theorem d_S_doRound_53 : decode prog_3_method_8_code 53 = .ok (.istore 4, 2) := by decide +kernel
theorem d_S_doRound_55 : decode prog_3_method_8_code 55 = .ok (.iconst 0, 1) := by decide +kernel
theorem d_S_doRound_56 : decode prog_3_method_8_code 56 = .ok (.istore 5, 2) := by decide +kernel
theorem d_S_doRound_58 : decode prog_3_method_8_code 58 = .ok (.iload 5, 2) := by decide +kernel
theorem d_S_doRound_60 : decode prog_3_method_8_code 60 = .ok (.iload 4, 2) := by decide +kernel
theorem d_S_doRound_62 : decode prog_3_method_8_code 62 = .ok (.if_icmp .ge 28, 3) := by decide +kernel
theorem d_S_doRound_65 : decode prog_3_method_8_code 65 = .ok (.aload_n 0, 1) := by decide +kernel
theorem d_S_doRound_66 : decode prog_3_method_8_code 66 = .ok (.aload_n 0, 1) := by decide +kernel
theorem d_S_doRound_67 : decode prog_3_method_8_code 67 = .ok (.getfield 21, 3) := by decide +kernel
theorem d_S_doRound_70 : decode prog_3_method_8_code 70 = .ok (.iload_n 1, 1) := by decide +kernel
theorem d_S_doRound_71 : decode prog_3_method_8_code 71 = .ok (.iload 5, 2) := by decide +kernel
theorem d_S_doRound_73 : decode prog_3_method_8_code 73 = .ok (.invokevirtual 77, 3) := by decide +kernel
theorem d_S_doRound_76 : decode prog_3_method_8_code 76 = .ok (.iload_n 1, 1) := by decide +kernel
theorem d_S_doRound_77 : decode prog_3_method_8_code 77 = .ok (.iload_n 3, 1) := by decide +kernel
theorem d_S_doRound_78 : decode prog_3_method_8_code 78 = .ok (.invokestatic 35, 3) := by decide +kernel
theorem d_S_doRound_81 : decode prog_3_method_8_code 81 = .ok (.invokevirtual 81, 3) := by decide +kernel
theorem d_S_doRound_84 : decode prog_3_method_8_code 84 = .ok (.iinc 5 1, 3) := by decide +kernel
theorem d_S_doRound_87 : decode prog_3_method_8_code 87 = .ok (.goto (-29), 3) := by decide +kernel
theorem d_S_doRound_90 : decode prog_3_method_8_code 90 = .ok (.iinc 3 1, 3) := by decide +kernel
theorem d_S_doRound_93 : decode prog_3_method_8_code 93 = .ok (.goto (-67), 3) := by decide +kernel
theorem d_S_doRound_96 : decode prog_3_method_8_code 96 = .ok (.iinc 1 1, 3) := by decide +kernel
theorem d_S_doRound_99 : decode prog_3_method_8_code 99 = .ok (.goto (-97), 3) := by decide +kernel
theorem d_S_doRound_102 : decode prog_3_method_8_code 102 = .ok (.return_, 1) := by decide +kernel
theorem d_S_doStatement_0 : decode prog_3_method_9_code 0 = .ok (.iload_n 2, 1) := by decide +kernel
theorem d_S_doStatement_1 : decode prog_3_method_9_code 1 = .ok (.aload_n 1, 1) := by decide +kernel
theorem d_S_doStatement_2 : decode prog_3_method_9_code 2 = .ok (.getfield 85, 3) := by decide +kernel
theorem d_S_doStatement_5 : decode prog_3_method_9_code 5 = .ok (.iadd, 1) := by decide +kernel
theorem d_S_doStatement_6 : decode prog_3_method_9_code 6 = .ok (.istore_n 3, 1) := by decide +kernel
theorem d_S_doStatement_7 : decode prog_3_method_9_code 7 = .ok (.iload_n 2, 1) := by decide +kernel
theorem d_S_doStatement_8 : decode prog_3_method_9_code 8 = .ok (.aload_n 1, 1) := by decide +kernel
theorem d_S_doStatement_9 : decode prog_3_method_9_code 9 = .ok (.getfield 90, 3) := by decide +kernel
theorem d_S_doStatement_12 : decode prog_3_method_9_code 12 = .ok (.iadd, 1) := by decide +kernel
theorem d_S_doStatement_13 : decode prog_3_method_9_code 13 = .ok (.istore 4, 2) := by decide +kernel
theorem d_S_doStatement_15 : decode prog_3_method_9_code 15 = .ok (.aload_n 1, 1) := by decide +kernel
theorem d_S_doStatement_16 : decode prog_3_method_9_code 16 = .ok (.getfield 93, 3) := by decide +kernel
theorem d_S_doStatement_19 : decode prog_3_method_9_code 19 = .ok (.tableswitch 218 0 8 #[49, 63, 78, 97, 121, 149, 170, 192, 201], 49) := by decide +kernel
theorem d_S_doStatement_68 : decode prog_3_method_9_code 68 = .ok (.aload_n 0, 1) := by decide +kernel
theorem d_S_doStatement_69 : decode prog_3_method_9_code 69 = .ok (.iload_n 3, 1) := by decide +kernel
theorem d_S_doStatement_70 : decode prog_3_method_9_code 70 = .ok (.iconst 1, 1) := by decide +kernel
theorem d_S_doStatement_71 : decode prog_3_method_9_code 71 = .ok (.aload_n 1, 1) := by decide +kernel
theorem d_S_doStatement_72 : decode prog_3_method_9_code 72 = .ok (.getfield 96, 3) := by decide +kernel
theorem d_S_doStatement_75 : decode prog_3_method_9_code 75 = .ok (.ishl, 1) := by decide +kernel
theorem d_S_doStatement_76 : decode prog_3_method_9_code 76 = .ok (.invokevirtual 99, 3) := by decide +kernel
theorem d_S_doStatement_79 : decode prog_3_method_9_code 79 = .ok (.goto 177, 3) := by decide +kernel
theorem d_S_doStatement_82 : decode prog_3_method_9_code 82 = .ok (.aload_n 0, 1) := by decide +kernel
theorem d_S_doStatement_83 : decode prog_3_method_9_code 83 = .ok (.iload_n 3, 1) := by decide +kernel
theorem d_S_doStatement_84 : decode prog_3_method_9_code 84 = .ok (.aload_n 0, 1) := by decide +kernel
theorem d_S_doStatement_85 : decode prog_3_method_9_code 85 = .ok (.getfield 9, 3) := by decide +kernel
theorem d_S_doStatement_88 : decode prog_3_method_9_code 88 = .ok (.iload 4, 2) := by decide +kernel
theorem d_S_doStatement_90 : decode prog_3_method_9_code 90 = .ok (.iaload, 1) := by decide +kernel
theorem d_S_doStatement_91 : decode prog_3_method_9_code 91 = .ok (.invokevirtual 99, 3) := by decide +kernel
theorem d_S_doStatement_94 : decode prog_3_method_9_code 94 = .ok (.goto 162, 3) := by decide +kernel
theorem d_S_doStatement_97 : decode prog_3_method_9_code 97 = .ok (.aload_n 0, 1) := by decide +kernel
theorem d_S_doStatement_98 : decode prog_3_method_9_code 98 = .ok (.iload_n 3, 1) := by decide +kernel
theorem d_S_doStatement_99 : decode prog_3_method_9_code 99 = .ok (.aload_n 0, 1) := by decide +kernel
theorem d_S_doStatement_100 : decode prog_3_method_9_code 100 = .ok (.getfield 9, 3) := by decide +kernel
theorem d_S_doStatement_103 : decode prog_3_method_9_code 103 = .ok (.iload 4, 2) := by decide +kernel
theorem d_S_doStatement_105 : decode prog_3_method_9_code 105 = .ok (.iaload, 1) := by decide +kernel
theorem d_S_doStatement_106 : decode prog_3_method_9_code 106 = .ok (.aload_n 1, 1) := by decide +kernel
theorem d_S_doStatement_107 : decode prog_3_method_9_code 107 = .ok (.getfield 103, 3) := by decide +kernel
theorem d_S_doStatement_110 : decode prog_3_method_9_code 110 = .ok (.invokevirtual 106, 3) := by decide +kernel
theorem d_S_doStatement_113 : decode prog_3_method_9_code 113 = .ok (.goto 143, 3) := by decide +kernel
theorem d_S_doStatement_116 : decode prog_3_method_9_code 116 = .ok (.aload_n 0, 1) := by decide +kernel
theorem d_S_doStatement_117 : decode prog_3_method_9_code 117 = .ok (.aload_n 0, 1) := by decide +kernel
theorem d_S_doStatement_118 : decode prog_3_method_9_code 118 = .ok (.getfield 9, 3) := by decide +kernel
theorem d_S_doStatement_121 : decode prog_3_method_9_code 121 = .ok (.iload_n 3, 1) := by decide +kernel
theorem d_S_doStatement_122 : decode prog_3_method_9_code 122 = .ok (.iaload, 1) := by decide +kernel
theorem d_S_doStatement_123 : decode prog_3_method_9_code 123 = .ok (.aload_n 1, 1) := by decide +kernel
theorem d_S_doStatement_124 : decode prog_3_method_9_code 124 = .ok (.getfield 103, 3) := by decide +kernel
theorem d_S_doStatement_127 : decode prog_3_method_9_code 127 = .ok (.aload_n 0, 1) := by decide +kernel
theorem d_S_doStatement_128 : decode prog_3_method_9_code 128 = .ok (.getfield 9, 3) := by decide +kernel
theorem d_S_doStatement_131 : decode prog_3_method_9_code 131 = .ok (.iload 4, 2) := by decide +kernel
theorem d_S_doStatement_133 : decode prog_3_method_9_code 133 = .ok (.iaload, 1) := by decide +kernel
theorem d_S_doStatement_134 : decode prog_3_method_9_code 134 = .ok (.invokevirtual 110, 3) := by decide +kernel
theorem d_S_doStatement_137 : decode prog_3_method_9_code 137 = .ok (.goto 119, 3) := by decide +kernel
theorem d_S_doStatement_140 : decode prog_3_method_9_code 140 = .ok (.aload_n 0, 1) := by decide +kernel
theorem d_S_doStatement_141 : decode prog_3_method_9_code 141 = .ok (.iload_n 3, 1) := by decide +kernel
theorem d_S_doStatement_142 : decode prog_3_method_9_code 142 = .ok (.aload_n 0, 1) := by decide +kernel
theorem d_S_doStatement_143 : decode prog_3_method_9_code 143 = .ok (.getfield 9, 3) := by decide +kernel
theorem d_S_doStatement_146 : decode prog_3_method_9_code 146 = .ok (.iload 4, 2) := by decide +kernel
theorem d_S_doStatement_148 : decode prog_3_method_9_code 148 = .ok (.iaload, 1) := by decide +kernel
theorem d_S_doStatement_149 : decode prog_3_method_9_code 149 = .ok (.aload_n 0, 1) := by decide +kernel
theorem d_S_doStatement_150 : decode prog_3_method_9_code 150 = .ok (.getfield 21, 3) := by decide +kernel
theorem d_S_doStatement_153 : decode prog_3_method_9_code 153 = .ok (.getfield 113, 3) := by decide +kernel
theorem d_S_doStatement_156 : decode prog_3_method_9_code 156 = .ok (.aload_n 1, 1) := by decide +kernel
theorem d_S_doStatement_157 : decode prog_3_method_9_code 157 = .ok (.getfield 103, 3) := by decide +kernel
theorem d_S_doStatement_160 : decode prog_3_method_9_code 160 = .ok (.iaload, 1) := by decide +kernel
theorem d_S_doStatement_161 : decode prog_3_method_9_code 161 = .ok (.iand, 1) := by decide +kernel
theorem d_S_doStatement_162 : decode prog_3_method_9_code 162 = .ok (.invokevirtual 99, 3) := by decide +kernel
theorem d_S_doStatement_165 : decode prog_3_method_9_code 165 = .ok (.goto 91, 3) := by decide +kernel
theorem d_S_doStatement_168 : decode prog_3_method_9_code 168 = .ok (.aload_n 0, 1) := by decide +kernel
theorem d_S_doStatement_169 : decode prog_3_method_9_code 169 = .ok (.iload_n 3, 1) := by decide +kernel
theorem d_S_doStatement_170 : decode prog_3_method_9_code 170 = .ok (.aload_n 0, 1) := by decide +kernel
theorem d_S_doStatement_171 : decode prog_3_method_9_code 171 = .ok (.getfield 9, 3) := by decide +kernel
theorem d_S_doStatement_174 : decode prog_3_method_9_code 174 = .ok (.sipush 1440, 3) := by decide +kernel
theorem d_S_doStatement_177 : decode prog_3_method_9_code 177 = .ok (.aload_n 1, 1) := by decide +kernel
theorem d_S_doStatement_178 : decode prog_3_method_9_code 178 = .ok (.getfield 90, 3) := by decide +kernel
theorem d_S_doStatement_181 : decode prog_3_method_9_code 181 = .ok (.iadd, 1) := by decide +kernel
theorem d_S_doStatement_182 : decode prog_3_method_9_code 182 = .ok (.iaload, 1) := by decide +kernel
theorem d_S_doStatement_183 : decode prog_3_method_9_code 183 = .ok (.invokevirtual 99, 3) := by decide +kernel
theorem d_S_doStatement_186 : decode prog_3_method_9_code 186 = .ok (.goto 70, 3) := by decide +kernel
theorem d_S_doStatement_189 : decode prog_3_method_9_code 189 = .ok (.aload_n 0, 1) := by decide +kernel
theorem d_S_doStatement_190 : decode prog_3_method_9_code 190 = .ok (.sipush 1440, 3) := by decide +kernel
theorem d_S_doStatement_193 : decode prog_3_method_9_code 193 = .ok (.aload_n 1, 1) := by decide +kernel
theorem d_S_doStatement_194 : decode prog_3_method_9_code 194 = .ok (.getfield 85, 3) := by decide +kernel
theorem d_S_doStatement_197 : decode prog_3_method_9_code 197 = .ok (.iadd, 1) := by decide +kernel
theorem d_S_doStatement_198 : decode prog_3_method_9_code 198 = .ok (.aload_n 0, 1) := by decide +kernel
theorem d_S_doStatement_199 : decode prog_3_method_9_code 199 = .ok (.getfield 9, 3) := by decide +kernel
theorem d_S_doStatement_202 : decode prog_3_method_9_code 202 = .ok (.iload 4, 2) := by decide +kernel
theorem d_S_doStatement_204 : decode prog_3_method_9_code 204 = .ok (.iaload, 1) := by decide +kernel
theorem d_S_doStatement_205 : decode prog_3_method_9_code 205 = .ok (.invokevirtual 99, 3) := by decide +kernel
theorem d_S_doStatement_208 : decode prog_3_method_9_code 208 = .ok (.goto 48, 3) := by decide +kernel
theorem d_S_doStatement_211 : decode prog_3_method_9_code 211 = .ok (.aload_n 0, 1) := by decide +kernel
theorem d_S_doStatement_212 : decode prog_3_method_9_code 212 = .ok (.aload_n 1, 1) := by decide +kernel
theorem d_S_doStatement_213 : decode prog_3_method_9_code 213 = .ok (.iload_n 2, 1) := by decide +kernel
theorem d_S_doStatement_214 : decode prog_3_method_9_code 214 = .ok (.invokevirtual 116, 3) := by decide +kernel
theorem d_S_doStatement_217 : decode prog_3_method_9_code 217 = .ok (.goto 39, 3) := by decide +kernel
theorem d_S_doStatement_220 : decode prog_3_method_9_code 220 = .ok (.aload_n 0, 1) := by decide +kernel
theorem d_S_doStatement_221 : decode prog_3_method_9_code 221 = .ok (.iload_n 3, 1) := by decide +kernel
theorem d_S_doStatement_222 : decode prog_3_method_9_code 222 = .ok (.aload_n 0, 1) := by decide +kernel
theorem d_S_doStatement_223 : decode prog_3_method_9_code 223 = .ok (.getfield 9, 3) := by decide +kernel
theorem d_S_doStatement_226 : decode prog_3_method_9_code 226 = .ok (.iload 4, 2) := by decide +kernel
theorem d_S_doStatement_228 : decode prog_3_method_9_code 228 = .ok (.iaload, 1) := by decide +kernel
theorem d_S_doStatement_229 : decode prog_3_method_9_code 229 = .ok (.bipush 8, 2) := by decide +kernel
theorem d_S_doStatement_231 : decode prog_3_method_9_code 231 = .ok (.invokevirtual 106, 3) := by decide +kernel
theorem d_S_doStatement_234 : decode prog_3_method_9_code 234 = .ok (.goto 22, 3) := by decide +kernel
theorem d_S_doStatement_237 : decode prog_3_method_9_code 237 = .ok (.aload_n 0, 1) := by decide +kernel
theorem d_S_doStatement_238 : decode prog_3_method_9_code 238 = .ok (.aload_n 0, 1) := by decide +kernel
theorem d_S_doStatement_239 : decode prog_3_method_9_code 239 = .ok (.getfield 9, 3) := by decide +kernel
theorem d_S_doStatement_242 : decode prog_3_method_9_code 242 = .ok (.iload_n 3, 1) := by decide +kernel
theorem d_S_doStatement_243 : decode prog_3_method_9_code 243 = .ok (.iaload, 1) := by decide +kernel
theorem d_S_doStatement_244 : decode prog_3_method_9_code 244 = .ok (.bipush 8, 2) := by decide +kernel
theorem d_S_doStatement_246 : decode prog_3_method_9_code 246 = .ok (.aload_n 0, 1) := by decide +kernel
theorem d_S_doStatement_247 : decode prog_3_method_9_code 247 = .ok (.getfield 9, 3) := by decide +kernel
theorem d_S_doStatement_250 : decode prog_3_method_9_code 250 = .ok (.iload 4, 2) := by decide +kernel
theorem d_S_doStatement_252 : decode prog_3_method_9_code 252 = .ok (.iaload, 1) := by decide +kernel
theorem d_S_doStatement_253 : decode prog_3_method_9_code 253 = .ok (.invokevirtual 110, 3) := by decide +kernel
theorem d_S_doStatement_256 : decode prog_3_method_9_code 256 = .ok (.return_, 1) := by decide +kernel
theorem d_S_addFromSlot_0 : decode prog_3_method_10_code 0 = .ok (.iload_n 2, 1) := by decide +kernel
theorem d_S_addFromSlot_1 : decode prog_3_method_10_code 1 = .ok (.aload_n 0, 1) := by decide +kernel
theorem d_S_addFromSlot_2 : decode prog_3_method_10_code 2 = .ok (.getfield 21, 3) := by decide +kernel
theorem d_S_addFromSlot_5 : decode prog_3_method_10_code 5 = .ok (.iload_n 3, 1) := by decide +kernel
theorem d_S_addFromSlot_6 : decode prog_3_method_10_code 6 = .ok (.invokevirtual 119, 3) := by decide +kernel
theorem d_S_addFromSlot_9 : decode prog_3_method_10_code 9 = .ok (.iand, 1) := by decide +kernel
theorem d_S_addFromSlot_10 : decode prog_3_method_10_code 10 = .ok (.istore 4, 2) := by decide +kernel
theorem d_S_addFromSlot_12 : decode prog_3_method_10_code 12 = .ok (.iconst 0, 1) := by decide +kernel
theorem d_S_addFromSlot_13 : decode prog_3_method_10_code 13 = .ok (.istore 5, 2) := by decide +kernel
theorem d_S_addFromSlot_15 : decode prog_3_method_10_code 15 = .ok (.iload 5, 2) := by decide +kernel
theorem d_S_addFromSlot_17 : decode prog_3_method_10_code 17 = .ok (.bipush 20, 2) := by decide +kernel
theorem d_S_addFromSlot_19 : decode prog_3_method_10_code 19 = .ok (.if_icmp .ge 43, 3) := by decide +kernel
theorem d_S_addFromSlot_22 : decode prog_3_method_10_code 22 = .ok (.iload 4, 2) := by decide +kernel
theorem d_S_addFromSlot_24 : decode prog_3_method_10_code 24 = .ok (.iload 5, 2) := by decide +kernel
theorem d_S_addFromSlot_26 : decode prog_3_method_10_code 26 = .ok (.iushr, 1) := by decide +kernel
theorem d_S_addFromSlot_27 : decode prog_3_method_10_code 27 = .ok (.ifCond .eq 35, 3) := by decide +kernel
theorem d_S_addFromSlot_30 : decode prog_3_method_10_code 30 = .ok (.iload 4, 2) := by decide +kernel
theorem d_S_addFromSlot_32 : decode prog_3_method_10_code 32 = .ok (.iload 5, 2) := by decide +kernel
theorem d_S_addFromSlot_34 : decode prog_3_method_10_code 34 = .ok (.invokestatic 70, 3) := by decide +kernel
theorem d_S_addFromSlot_37 : decode prog_3_method_10_code 37 = .ok (.ifCond .eq 19, 3) := by decide +kernel
theorem d_S_addFromSlot_40 : decode prog_3_method_10_code 40 = .ok (.aload_n 0, 1) := by decide +kernel
theorem d_S_addFromSlot_41 : decode prog_3_method_10_code 41 = .ok (.iload_n 1, 1) := by decide +kernel
theorem d_S_addFromSlot_42 : decode prog_3_method_10_code 42 = .ok (.aload_n 0, 1) := by decide +kernel
theorem d_S_addFromSlot_43 : decode prog_3_method_10_code 43 = .ok (.getfield 9, 3) := by decide +kernel
theorem d_S_addFromSlot_46 : decode prog_3_method_10_code 46 = .ok (.iload 5, 2) := by decide +kernel
theorem d_S_addFromSlot_48 : decode prog_3_method_10_code 48 = .ok (.iload_n 3, 1) := by decide +kernel
theorem d_S_addFromSlot_49 : decode prog_3_method_10_code 49 = .ok (.invokestatic 123, 3) := by decide +kernel
theorem d_S_addFromSlot_52 : decode prog_3_method_10_code 52 = .ok (.iaload, 1) := by decide +kernel
theorem d_S_addFromSlot_53 : decode prog_3_method_10_code 53 = .ok (.invokevirtual 99, 3) := by decide +kernel
theorem d_S_addFromSlot_56 : decode prog_3_method_10_code 56 = .ok (.iinc 5 1, 3) := by decide +kernel
theorem d_S_addFromSlot_59 : decode prog_3_method_10_code 59 = .ok (.goto (-44), 3) := by decide +kernel
theorem d_S_addFromSlot_62 : decode prog_3_method_10_code 62 = .ok (.return_, 1) := by decide +kernel
theorem d_S_addToSlot_0 : decode prog_3_method_11_code 0 = .ok (.iload_n 1, 1) := by decide +kernel
theorem d_S_addToSlot_1 : decode prog_3_method_11_code 1 = .ok (.aload_n 0, 1) := by decide +kernel
theorem d_S_addToSlot_2 : decode prog_3_method_11_code 2 = .ok (.getfield 21, 3) := by decide +kernel
theorem d_S_addToSlot_5 : decode prog_3_method_11_code 5 = .ok (.iload_n 2, 1) := by decide +kernel
theorem d_S_addToSlot_6 : decode prog_3_method_11_code 6 = .ok (.invokevirtual 119, 3) := by decide +kernel
theorem d_S_addToSlot_9 : decode prog_3_method_11_code 9 = .ok (.iand, 1) := by decide +kernel
theorem d_S_addToSlot_10 : decode prog_3_method_11_code 10 = .ok (.istore 4, 2) := by decide +kernel
theorem d_S_addToSlot_12 : decode prog_3_method_11_code 12 = .ok (.iconst 0, 1) := by decide +kernel
theorem d_S_addToSlot_13 : decode prog_3_method_11_code 13 = .ok (.istore 5, 2) := by decide +kernel
theorem d_S_addToSlot_15 : decode prog_3_method_11_code 15 = .ok (.iload 5, 2) := by decide +kernel
theorem d_S_addToSlot_17 : decode prog_3_method_11_code 17 = .ok (.bipush 20, 2) := by decide +kernel
theorem d_S_addToSlot_19 : decode prog_3_method_11_code 19 = .ok (.if_icmp .ge 38, 3) := by decide +kernel
theorem d_S_addToSlot_22 : decode prog_3_method_11_code 22 = .ok (.iload 4, 2) := by decide +kernel
theorem d_S_addToSlot_24 : decode prog_3_method_11_code 24 = .ok (.iload 5, 2) := by decide +kernel
theorem d_S_addToSlot_26 : decode prog_3_method_11_code 26 = .ok (.iushr, 1) := by decide +kernel
theorem d_S_addToSlot_27 : decode prog_3_method_11_code 27 = .ok (.ifCond .eq 30, 3) := by decide +kernel
theorem d_S_addToSlot_30 : decode prog_3_method_11_code 30 = .ok (.iload 4, 2) := by decide +kernel
theorem d_S_addToSlot_32 : decode prog_3_method_11_code 32 = .ok (.iload 5, 2) := by decide +kernel
theorem d_S_addToSlot_34 : decode prog_3_method_11_code 34 = .ok (.invokestatic 70, 3) := by decide +kernel
theorem d_S_addToSlot_37 : decode prog_3_method_11_code 37 = .ok (.ifCond .eq 14, 3) := by decide +kernel
theorem d_S_addToSlot_40 : decode prog_3_method_11_code 40 = .ok (.aload_n 0, 1) := by decide +kernel
theorem d_S_addToSlot_41 : decode prog_3_method_11_code 41 = .ok (.iload 5, 2) := by decide +kernel
theorem d_S_addToSlot_43 : decode prog_3_method_11_code 43 = .ok (.iload_n 2, 1) := by decide +kernel
theorem d_S_addToSlot_44 : decode prog_3_method_11_code 44 = .ok (.invokestatic 123, 3) := by decide +kernel
theorem d_S_addToSlot_47 : decode prog_3_method_11_code 47 = .ok (.iload_n 3, 1) := by decide +kernel
theorem d_S_addToSlot_48 : decode prog_3_method_11_code 48 = .ok (.invokevirtual 99, 3) := by decide +kernel
theorem d_S_addToSlot_51 : decode prog_3_method_11_code 51 = .ok (.iinc 5 1, 3) := by decide +kernel
theorem d_S_addToSlot_54 : decode prog_3_method_11_code 54 = .ok (.goto (-39), 3) := by decide +kernel
theorem d_S_addToSlot_57 : decode prog_3_method_11_code 57 = .ok (.return_, 1) := by decide +kernel
theorem d_S_doCall_0 : decode prog_3_method_12_code 0 = .ok (.aload_n 0, 1) := by decide +kernel
theorem d_S_doCall_1 : decode prog_3_method_12_code 1 = .ok (.getfield 9, 3) := by decide +kernel
theorem d_S_doCall_4 : decode prog_3_method_12_code 4 = .ok (.iload_n 2, 1) := by decide +kernel
theorem d_S_doCall_5 : decode prog_3_method_12_code 5 = .ok (.aload_n 1, 1) := by decide +kernel
theorem d_S_doCall_6 : decode prog_3_method_12_code 6 = .ok (.getfield 90, 3) := by decide +kernel
theorem d_S_doCall_9 : decode prog_3_method_12_code 9 = .ok (.iadd, 1) := by decide +kernel
theorem d_S_doCall_10 : decode prog_3_method_12_code 10 = .ok (.iaload, 1) := by decide +kernel
theorem d_S_doCall_11 : decode prog_3_method_12_code 11 = .ok (.istore_n 3, 1) := by decide +kernel
theorem d_S_doCall_12 : decode prog_3_method_12_code 12 = .ok (.iconst 0, 1) := by decide +kernel
theorem d_S_doCall_13 : decode prog_3_method_12_code 13 = .ok (.istore 4, 2) := by decide +kernel
theorem d_S_doCall_15 : decode prog_3_method_12_code 15 = .ok (.iload 4, 2) := by decide +kernel
theorem d_S_doCall_17 : decode prog_3_method_12_code 17 = .ok (.aload_n 0, 1) := by decide +kernel
theorem d_S_doCall_18 : decode prog_3_method_12_code 18 = .ok (.getfield 21, 3) := by decide +kernel
theorem d_S_doCall_21 : decode prog_3_method_12_code 21 = .ok (.getfield 29, 3) := by decide +kernel
theorem d_S_doCall_24 : decode prog_3_method_12_code 24 = .ok (.if_icmp .ge 146, 3) := by decide +kernel
theorem d_S_doCall_27 : decode prog_3_method_12_code 27 = .ok (.iload_n 3, 1) := by decide +kernel
theorem d_S_doCall_28 : decode prog_3_method_12_code 28 = .ok (.iload 4, 2) := by decide +kernel
theorem d_S_doCall_30 : decode prog_3_method_12_code 30 = .ok (.iushr, 1) := by decide +kernel
theorem d_S_doCall_31 : decode prog_3_method_12_code 31 = .ok (.ifCond .eq 139, 3) := by decide +kernel
theorem d_S_doCall_34 : decode prog_3_method_12_code 34 = .ok (.aload_n 0, 1) := by decide +kernel
theorem d_S_doCall_35 : decode prog_3_method_12_code 35 = .ok (.getfield 21, 3) := by decide +kernel
theorem d_S_doCall_38 : decode prog_3_method_12_code 38 = .ok (.iload 4, 2) := by decide +kernel
theorem d_S_doCall_40 : decode prog_3_method_12_code 40 = .ok (.aload_n 1, 1) := by decide +kernel
theorem d_S_doCall_41 : decode prog_3_method_12_code 41 = .ok (.getfield 103, 3) := by decide +kernel
theorem d_S_doCall_44 : decode prog_3_method_12_code 44 = .ok (.invokevirtual 126, 3) := by decide +kernel
theorem d_S_doCall_47 : decode prog_3_method_12_code 47 = .ok (.istore 5, 2) := by decide +kernel
theorem d_S_doCall_49 : decode prog_3_method_12_code 49 = .ok (.iload_n 3, 1) := by decide +kernel
theorem d_S_doCall_50 : decode prog_3_method_12_code 50 = .ok (.iload 4, 2) := by decide +kernel
theorem d_S_doCall_52 : decode prog_3_method_12_code 52 = .ok (.invokestatic 70, 3) := by decide +kernel
theorem d_S_doCall_55 : decode prog_3_method_12_code 55 = .ok (.ifCond .eq 109, 3) := by decide +kernel
theorem d_S_doCall_58 : decode prog_3_method_12_code 58 = .ok (.iload 5, 2) := by decide +kernel
theorem d_S_doCall_60 : decode prog_3_method_12_code 60 = .ok (.iconst (-1), 1) := by decide +kernel
theorem d_S_doCall_61 : decode prog_3_method_12_code 61 = .ok (.if_icmp .eq 103, 3) := by decide +kernel
theorem d_S_doCall_64 : decode prog_3_method_12_code 64 = .ok (.aload_n 0, 1) := by decide +kernel
theorem d_S_doCall_65 : decode prog_3_method_12_code 65 = .ok (.iload 4, 2) := by decide +kernel
theorem d_S_doCall_67 : decode prog_3_method_12_code 67 = .ok (.invokevirtual 129, 3) := by decide +kernel
theorem d_S_doCall_70 : decode prog_3_method_12_code 70 = .ok (.istore 6, 2) := by decide +kernel
theorem d_S_doCall_72 : decode prog_3_method_12_code 72 = .ok (.iload 5, 2) := by decide +kernel
theorem d_S_doCall_74 : decode prog_3_method_12_code 74 = .ok (.iload 6, 2) := by decide +kernel
theorem d_S_doCall_76 : decode prog_3_method_12_code 76 = .ok (.invokestatic 35, 3) := by decide +kernel
theorem d_S_doCall_79 : decode prog_3_method_12_code 79 = .ok (.istore 7, 2) := by decide +kernel
theorem d_S_doCall_81 : decode prog_3_method_12_code 81 = .ok (.aload_n 0, 1) := by decide +kernel
theorem d_S_doCall_82 : decode prog_3_method_12_code 82 = .ok (.sipush 1444, 3) := by decide +kernel
theorem d_S_doCall_85 : decode prog_3_method_12_code 85 = .ok (.iload 5, 2) := by decide +kernel
theorem d_S_doCall_87 : decode prog_3_method_12_code 87 = .ok (.iadd, 1) := by decide +kernel
theorem d_S_doCall_88 : decode prog_3_method_12_code 88 = .ok (.iconst 1, 1) := by decide +kernel
theorem d_S_doCall_89 : decode prog_3_method_12_code 89 = .ok (.iload 6, 2) := by decide +kernel
theorem d_S_doCall_91 : decode prog_3_method_12_code 91 = .ok (.ishl, 1) := by decide +kernel
theorem d_S_doCall_92 : decode prog_3_method_12_code 92 = .ok (.invokevirtual 99, 3) := by decide +kernel
theorem d_S_doCall_95 : decode prog_3_method_12_code 95 = .ok (.aload_n 0, 1) := by decide +kernel
theorem d_S_doCall_96 : decode prog_3_method_12_code 96 = .ok (.iload 7, 2) := by decide +kernel
theorem d_S_doCall_98 : decode prog_3_method_12_code 98 = .ok (.iconst 0, 1) := by decide +kernel
theorem d_S_doCall_99 : decode prog_3_method_12_code 99 = .ok (.iadd, 1) := by decide +kernel
theorem d_S_doCall_100 : decode prog_3_method_12_code 100 = .ok (.iconst 1, 1) := by decide +kernel
theorem d_S_doCall_101 : decode prog_3_method_12_code 101 = .ok (.iload 4, 2) := by decide +kernel
theorem d_S_doCall_103 : decode prog_3_method_12_code 103 = .ok (.ishl, 1) := by decide +kernel
theorem d_S_doCall_104 : decode prog_3_method_12_code 104 = .ok (.invokevirtual 99, 3) := by decide +kernel
theorem d_S_doCall_107 : decode prog_3_method_12_code 107 = .ok (.aload_n 0, 1) := by decide +kernel
theorem d_S_doCall_108 : decode prog_3_method_12_code 108 = .ok (.iload 7, 2) := by decide +kernel
theorem d_S_doCall_110 : decode prog_3_method_12_code 110 = .ok (.iconst 1, 1) := by decide +kernel
theorem d_S_doCall_111 : decode prog_3_method_12_code 111 = .ok (.iadd, 1) := by decide +kernel
theorem d_S_doCall_112 : decode prog_3_method_12_code 112 = .ok (.aload_n 0, 1) := by decide +kernel
theorem d_S_doCall_113 : decode prog_3_method_12_code 113 = .ok (.getfield 9, 3) := by decide +kernel
theorem d_S_doCall_116 : decode prog_3_method_12_code 116 = .ok (.iload_n 2, 1) := by decide +kernel
theorem d_S_doCall_117 : decode prog_3_method_12_code 117 = .ok (.aload_n 1, 1) := by decide +kernel
theorem d_S_doCall_118 : decode prog_3_method_12_code 118 = .ok (.getfield 132, 3) := by decide +kernel
theorem d_S_doCall_121 : decode prog_3_method_12_code 121 = .ok (.iadd, 1) := by decide +kernel
theorem d_S_doCall_122 : decode prog_3_method_12_code 122 = .ok (.iaload, 1) := by decide +kernel
theorem d_S_doCall_123 : decode prog_3_method_12_code 123 = .ok (.invokevirtual 99, 3) := by decide +kernel
theorem d_S_doCall_126 : decode prog_3_method_12_code 126 = .ok (.aload_n 0, 1) := by decide +kernel
theorem d_S_doCall_127 : decode prog_3_method_12_code 127 = .ok (.iload 7, 2) := by decide +kernel
theorem d_S_doCall_129 : decode prog_3_method_12_code 129 = .ok (.iconst 2, 1) := by decide +kernel
theorem d_S_doCall_130 : decode prog_3_method_12_code 130 = .ok (.iadd, 1) := by decide +kernel
theorem d_S_doCall_131 : decode prog_3_method_12_code 131 = .ok (.aload_n 0, 1) := by decide +kernel
theorem d_S_doCall_132 : decode prog_3_method_12_code 132 = .ok (.getfield 9, 3) := by decide +kernel
theorem d_S_doCall_135 : decode prog_3_method_12_code 135 = .ok (.iload_n 2, 1) := by decide +kernel
theorem d_S_doCall_136 : decode prog_3_method_12_code 136 = .ok (.aload_n 1, 1) := by decide +kernel
theorem d_S_doCall_137 : decode prog_3_method_12_code 137 = .ok (.getfield 135, 3) := by decide +kernel
theorem d_S_doCall_140 : decode prog_3_method_12_code 140 = .ok (.iadd, 1) := by decide +kernel
theorem d_S_doCall_141 : decode prog_3_method_12_code 141 = .ok (.iaload, 1) := by decide +kernel
theorem d_S_doCall_142 : decode prog_3_method_12_code 142 = .ok (.invokevirtual 99, 3) := by decide +kernel
theorem d_S_doCall_145 : decode prog_3_method_12_code 145 = .ok (.aload_n 0, 1) := by decide +kernel
theorem d_S_doCall_146 : decode prog_3_method_12_code 146 = .ok (.iload_n 2, 1) := by decide +kernel
theorem d_S_doCall_147 : decode prog_3_method_12_code 147 = .ok (.aload_n 1, 1) := by decide +kernel
theorem d_S_doCall_148 : decode prog_3_method_12_code 148 = .ok (.getfield 85, 3) := by decide +kernel
theorem d_S_doCall_151 : decode prog_3_method_12_code 151 = .ok (.iadd, 1) := by decide +kernel
theorem d_S_doCall_152 : decode prog_3_method_12_code 152 = .ok (.aload_n 0, 1) := by decide +kernel
theorem d_S_doCall_153 : decode prog_3_method_12_code 153 = .ok (.getfield 9, 3) := by decide +kernel
theorem d_S_doCall_156 : decode prog_3_method_12_code 156 = .ok (.iload 7, 2) := by decide +kernel
theorem d_S_doCall_158 : decode prog_3_method_12_code 158 = .ok (.iconst 5, 1) := by decide +kernel
theorem d_S_doCall_159 : decode prog_3_method_12_code 159 = .ok (.iadd, 1) := by decide +kernel
theorem d_S_doCall_160 : decode prog_3_method_12_code 160 = .ok (.iaload, 1) := by decide +kernel
theorem d_S_doCall_161 : decode prog_3_method_12_code 161 = .ok (.invokevirtual 99, 3) := by decide +kernel
theorem d_S_doCall_164 : decode prog_3_method_12_code 164 = .ok (.iinc 4 1, 3) := by decide +kernel
theorem d_S_doCall_167 : decode prog_3_method_12_code 167 = .ok (.goto (-152), 3) := by decide +kernel
theorem d_S_doCall_170 : decode prog_3_method_12_code 170 = .ok (.return_, 1) := by decide +kernel
theorem d_S_add_0 : decode prog_3_method_13_code 0 = .ok (.iload_n 2, 1) := by decide +kernel
theorem d_S_add_1 : decode prog_3_method_13_code 1 = .ok (.aload_n 0, 1) := by decide +kernel
theorem d_S_add_2 : decode prog_3_method_13_code 2 = .ok (.getfield 15, 3) := by decide +kernel
theorem d_S_add_5 : decode prog_3_method_13_code 5 = .ok (.iload_n 1, 1) := by decide +kernel
theorem d_S_add_6 : decode prog_3_method_13_code 6 = .ok (.iaload, 1) := by decide +kernel
theorem d_S_add_7 : decode prog_3_method_13_code 7 = .ok (.iconst (-1), 1) := by decide +kernel
theorem d_S_add_8 : decode prog_3_method_13_code 8 = .ok (.ixor, 1) := by decide +kernel
theorem d_S_add_9 : decode prog_3_method_13_code 9 = .ok (.iand, 1) := by decide +kernel
theorem d_S_add_10 : decode prog_3_method_13_code 10 = .ok (.istore_n 3, 1) := by decide +kernel
theorem d_S_add_11 : decode prog_3_method_13_code 11 = .ok (.iload_n 3, 1) := by decide +kernel
theorem d_S_add_12 : decode prog_3_method_13_code 12 = .ok (.ifCond .ne 4, 3) := by decide +kernel
theorem d_S_add_15 : decode prog_3_method_13_code 15 = .ok (.return_, 1) := by decide +kernel
theorem d_S_add_16 : decode prog_3_method_13_code 16 = .ok (.aload_n 0, 1) := by decide +kernel
theorem d_S_add_17 : decode prog_3_method_13_code 17 = .ok (.getfield 15, 3) := by decide +kernel
theorem d_S_add_20 : decode prog_3_method_13_code 20 = .ok (.iload_n 1, 1) := by decide +kernel
theorem d_S_add_21 : decode prog_3_method_13_code 21 = .ok (.dup2, 1) := by decide +kernel
theorem d_S_add_22 : decode prog_3_method_13_code 22 = .ok (.iaload, 1) := by decide +kernel
theorem d_S_add_23 : decode prog_3_method_13_code 23 = .ok (.iload_n 3, 1) := by decide +kernel
theorem d_S_add_24 : decode prog_3_method_13_code 24 = .ok (.ior, 1) := by decide +kernel
theorem d_S_add_25 : decode prog_3_method_13_code 25 = .ok (.iastore, 1) := by decide +kernel
theorem d_S_add_26 : decode prog_3_method_13_code 26 = .ok (.aload_n 0, 1) := by decide +kernel
theorem d_S_add_27 : decode prog_3_method_13_code 27 = .ok (.iconst 1, 1) := by decide +kernel
theorem d_S_add_28 : decode prog_3_method_13_code 28 = .ok (.putfield 60, 3) := by decide +kernel
theorem d_S_add_31 : decode prog_3_method_13_code 31 = .ok (.iload_n 1, 1) := by decide +kernel
theorem d_S_add_32 : decode prog_3_method_13_code 32 = .ok (.sipush 1260, 3) := by decide +kernel
theorem d_S_add_35 : decode prog_3_method_13_code 35 = .ok (.if_icmp .ge 9, 3) := by decide +kernel
theorem d_S_add_38 : decode prog_3_method_13_code 38 = .ok (.aload_n 0, 1) := by decide +kernel
theorem d_S_add_39 : decode prog_3_method_13_code 39 = .ok (.iload_n 1, 1) := by decide +kernel
theorem d_S_add_40 : decode prog_3_method_13_code 40 = .ok (.iload_n 3, 1) := by decide +kernel
theorem d_S_add_41 : decode prog_3_method_13_code 41 = .ok (.invokevirtual 138, 3) := by decide +kernel
theorem d_S_add_44 : decode prog_3_method_13_code 44 = .ok (.return_, 1) := by decide +kernel
theorem d_S_noteRound_0 : decode prog_3_method_14_code 0 = .ok (.iload_n 1, 1) := by decide +kernel
theorem d_S_noteRound_1 : decode prog_3_method_14_code 1 = .ok (.bipush 126, 2) := by decide +kernel
theorem d_S_noteRound_3 : decode prog_3_method_14_code 3 = .ok (.idiv, 1) := by decide +kernel
theorem d_S_noteRound_4 : decode prog_3_method_14_code 4 = .ok (.istore_n 3, 1) := by decide +kernel
theorem d_S_noteRound_5 : decode prog_3_method_14_code 5 = .ok (.iload_n 3, 1) := by decide +kernel
theorem d_S_noteRound_6 : decode prog_3_method_14_code 6 = .ok (.bipush 6, 2) := by decide +kernel
theorem d_S_noteRound_8 : decode prog_3_method_14_code 8 = .ok (.imul, 1) := by decide +kernel
theorem d_S_noteRound_9 : decode prog_3_method_14_code 9 = .ok (.iload_n 1, 1) := by decide +kernel
theorem d_S_noteRound_10 : decode prog_3_method_14_code 10 = .ok (.bipush 6, 2) := by decide +kernel
theorem d_S_noteRound_12 : decode prog_3_method_14_code 12 = .ok (.irem, 1) := by decide +kernel
theorem d_S_noteRound_13 : decode prog_3_method_14_code 13 = .ok (.iadd, 1) := by decide +kernel
theorem d_S_noteRound_14 : decode prog_3_method_14_code 14 = .ok (.bipush 20, 2) := by decide +kernel
theorem d_S_noteRound_16 : decode prog_3_method_14_code 16 = .ok (.imul, 1) := by decide +kernel
theorem d_S_noteRound_17 : decode prog_3_method_14_code 17 = .ok (.istore 4, 2) := by decide +kernel
theorem d_S_noteRound_19 : decode prog_3_method_14_code 19 = .ok (.iconst 0, 1) := by decide +kernel
theorem d_S_noteRound_20 : decode prog_3_method_14_code 20 = .ok (.istore 5, 2) := by decide +kernel
theorem d_S_noteRound_22 : decode prog_3_method_14_code 22 = .ok (.iload 5, 2) := by decide +kernel
theorem d_S_noteRound_24 : decode prog_3_method_14_code 24 = .ok (.bipush 20, 2) := by decide +kernel
theorem d_S_noteRound_26 : decode prog_3_method_14_code 26 = .ok (.if_icmp .ge 45, 3) := by decide +kernel
theorem d_S_noteRound_29 : decode prog_3_method_14_code 29 = .ok (.iload_n 2, 1) := by decide +kernel
theorem d_S_noteRound_30 : decode prog_3_method_14_code 30 = .ok (.iload 5, 2) := by decide +kernel
theorem d_S_noteRound_32 : decode prog_3_method_14_code 32 = .ok (.iushr, 1) := by decide +kernel
theorem d_S_noteRound_33 : decode prog_3_method_14_code 33 = .ok (.iconst 1, 1) := by decide +kernel
theorem d_S_noteRound_34 : decode prog_3_method_14_code 34 = .ok (.iand, 1) := by decide +kernel
theorem d_S_noteRound_35 : decode prog_3_method_14_code 35 = .ok (.ifCond .eq 30, 3) := by decide +kernel
theorem d_S_noteRound_38 : decode prog_3_method_14_code 38 = .ok (.aload_n 0, 1) := by decide +kernel
theorem d_S_noteRound_39 : decode prog_3_method_14_code 39 = .ok (.getfield 18, 3) := by decide +kernel
theorem d_S_noteRound_42 : decode prog_3_method_14_code 42 = .ok (.iload 4, 2) := by decide +kernel
theorem d_S_noteRound_44 : decode prog_3_method_14_code 44 = .ok (.iload 5, 2) := by decide +kernel
theorem d_S_noteRound_46 : decode prog_3_method_14_code 46 = .ok (.iadd, 1) := by decide +kernel
theorem d_S_noteRound_47 : decode prog_3_method_14_code 47 = .ok (.iaload, 1) := by decide +kernel
theorem d_S_noteRound_48 : decode prog_3_method_14_code 48 = .ok (.ifCond .ne 17, 3) := by decide +kernel
theorem d_S_noteRound_51 : decode prog_3_method_14_code 51 = .ok (.aload_n 0, 1) := by decide +kernel
theorem d_S_noteRound_52 : decode prog_3_method_14_code 52 = .ok (.getfield 18, 3) := by decide +kernel
theorem d_S_noteRound_55 : decode prog_3_method_14_code 55 = .ok (.iload 4, 2) := by decide +kernel
theorem d_S_noteRound_57 : decode prog_3_method_14_code 57 = .ok (.iload 5, 2) := by decide +kernel
theorem d_S_noteRound_59 : decode prog_3_method_14_code 59 = .ok (.iadd, 1) := by decide +kernel
theorem d_S_noteRound_60 : decode prog_3_method_14_code 60 = .ok (.aload_n 0, 1) := by decide +kernel
theorem d_S_noteRound_61 : decode prog_3_method_14_code 61 = .ok (.getfield 51, 3) := by decide +kernel
theorem d_S_noteRound_64 : decode prog_3_method_14_code 64 = .ok (.iastore, 1) := by decide +kernel
theorem d_S_noteRound_65 : decode prog_3_method_14_code 65 = .ok (.iinc 5 1, 3) := by decide +kernel
theorem d_S_noteRound_68 : decode prog_3_method_14_code 68 = .ok (.goto (-46), 3) := by decide +kernel
theorem d_S_noteRound_71 : decode prog_3_method_14_code 71 = .ok (.return_, 1) := by decide +kernel
theorem r_P_addStatement_0 {Q : Option mV → mS → Prop} {σ : mS} {x1 : Int32} (h : ∀ v2, v2 = (σ 1 3) → (vp_in v2 60 ∧ (∀ t3, t3 = (m_up (m_up σ 1 3 ((σ 1 3) + (1 : Int32))) (59 + v2.toNatClampNeg % 60) 0 x1) → (vp_in x1 10 ∧ (vp_in ((x1 * (nI 60)) + (t3 11 x1.toNatClampNeg)) 600 ∧ (∀ t4, t4 = (m_up t3 12 ((x1 * (nI 60)) + (t3 11 x1.toNatClampNeg)).toNatClampNeg v2) → (vp_in x1 10 ∧ (vp_in x1 10 ∧ (∀ t5, t5 = (m_up t4 11 x1.toNatClampNeg ((t4 11 x1.toNatClampNeg) + (1 : Int32))) → ((¬ (t5 (59 + v2.toNatClampNeg % 60) 2) = (0 : Int32) → (Q (some (.inl v2)) t5)) ∧ ((t5 (59 + v2.toNatClampNeg % 60) 2) = (0 : Int32) → (MU M_P_addSite [.inr (1, 0), .inl (t5 (59 + v2.toNatClampNeg % 60) 4)] t5 (fun r s6 => ∃ r8, r = some (.inl r8) ∧ (Q (some (.inl v2)) (m_up s6 (59 + v2.toNatClampNeg % 60) 1 r8))))))))))))))) : J M_P_addStatement Q 0 [some (.inr (1, 0)), some (.inl x1), none, none] [] σ :=
  J_aload_n (i := 0) rfl rfl d_P_addStatement_0 <|
  J_dup d_P_addStatement_1 <|
  gP_63 rfl d_P_addStatement_2 <|
  J_dup_x1 d_P_addStatement_5 <|
  J_iconst (v := (1 : Int32)) d_P_addStatement_6 (by decide) <|
  J_iadd d_P_addStatement_7 <|
  pP_63 rfl d_P_addStatement_8 <|
  J_namei (fun v2 ev2 =>
  J_istore_n (i := 2) (ls' := [some (.inr (1, 0)), some (.inl x1), some (.inl v2), none]) rfl rfl rfl rfl d_P_addStatement_11 <|
  J_aload_n (i := 0) rfl rfl d_P_addStatement_12 <|
  gP_35 rfl d_P_addStatement_13 <|
  J_iload_n (i := 2) rfl rfl d_P_addStatement_16 <|
  J_aald (((h) v2 ev2)).1 d_P_addStatement_17 <|
  J_astore_n (i := 3) (ls' := [some (.inr (1, 0)), some (.inl x1), some (.inl v2), some (.inr (59, v2.toNatClampNeg))]) rfl rfl rfl rfl d_P_addStatement_18 <|
  J_aload_n (i := 3) rfl rfl d_P_addStatement_19 <|
  J_iload_n (i := 1) rfl rfl d_P_addStatement_20 <|
  pP_82 rfl d_P_addStatement_21 <|
  J_names (fun t3 et3 =>
  J_aload_n (i := 0) rfl rfl d_P_addStatement_24 <|
  gP_42 rfl d_P_addStatement_25 <|
  J_iload_n (i := 1) rfl rfl d_P_addStatement_28 <|
  J_bipush (v := (nI 60)) d_P_addStatement_29 (by decide) <|
  J_imul d_P_addStatement_31 <|
  J_aload_n (i := 0) rfl rfl d_P_addStatement_32 <|
  gP_39 rfl d_P_addStatement_33 <|
  J_iload_n (i := 1) rfl rfl d_P_addStatement_36 <|
  J_iald ((((((h) v2 ev2)).2) t3 et3)).1 d_P_addStatement_37 <|
  J_iadd d_P_addStatement_38 <|
  J_iload_n (i := 2) rfl rfl d_P_addStatement_39 <|
  J_iast (((((((h) v2 ev2)).2) t3 et3)).2).1 d_P_addStatement_40 <|
  J_names (fun t4 et4 =>
  J_aload_n (i := 0) rfl rfl d_P_addStatement_41 <|
  gP_39 rfl d_P_addStatement_42 <|
  J_iload_n (i := 1) rfl rfl d_P_addStatement_45 <|
  J_dup2 d_P_addStatement_46 <|
  J_iald ((((((((((h) v2 ev2)).2) t3 et3)).2).2) t4 et4)).1 d_P_addStatement_47 <|
  J_iconst (v := (1 : Int32)) d_P_addStatement_48 (by decide) <|
  J_iadd d_P_addStatement_49 <|
  J_iast (((((((((((h) v2 ev2)).2) t3 et3)).2).2) t4 et4)).2).1 d_P_addStatement_50 <|
  J_names (fun t5 et5 =>
  J_aload_n (i := 3) rfl rfl d_P_addStatement_51 <|
  gP_85 rfl d_P_addStatement_52 <|
  J_if_ne (tgt := 70) d_P_addStatement_55 (by decide) (fun c10 =>
  J_iload_n (i := 2) rfl rfl d_P_addStatement_70 <|
  J_iret rfl d_P_addStatement_71 ((((((((((((((((h) v2 ev2)).2) t3 et3)).2).2) t4 et4)).2).2) t5 et5)).1 c10))) (fun c10 =>
  J_aload_n (i := 3) rfl rfl d_P_addStatement_58 <|
  J_aload_n (i := 0) rfl rfl d_P_addStatement_59 <|
  J_aload_n (i := 3) rfl rfl d_P_addStatement_60 <|
  gP_88 rfl d_P_addStatement_61 <|
  kP_91_i rfl rfl rfl (args := [.inl (t5 (59 + v2.toNatClampNeg % 60) 4)]) ((((((((((((((((h) v2 ev2)).2) t3 et3)).2).2) t4 et4)).2).2) t5 et5)).2 c10)) d_P_addStatement_64 (fun r8 s6 h7 =>
  pP_95 rfl d_P_addStatement_67 <|
  J_iload_n (i := 2) rfl rfl d_P_addStatement_70 <|
  J_iret rfl d_P_addStatement_71 (h7)))))))
theorem r_P_addSite_0 {Q : Option mV → mS → Prop} {σ : mS} {x1 : Int32} (h : ∀ v2, v2 = (σ 1 4) → (vp_in v2 20 ∧ (J M_P_addSite Q 21 [some (.inr (1, 0)), some (.inl x1), some (.inl v2), some (.inl (0 : Int32))] [] (m_up (m_up σ 1 4 ((σ 1 4) + (1 : Int32))) 10 v2.toNatClampNeg x1)))) : J M_P_addSite Q 0 [some (.inr (1, 0)), some (.inl x1), none, none] [] σ :=
  J_aload_n (i := 0) rfl rfl d_P_addSite_0 <|
  J_dup d_P_addSite_1 <|
  gP_66 rfl d_P_addSite_2 <|
  J_dup_x1 d_P_addSite_5 <|
  J_iconst (v := (1 : Int32)) d_P_addSite_6 (by decide) <|
  J_iadd d_P_addSite_7 <|
  pP_66 rfl d_P_addSite_8 <|
  J_namei (fun v2 ev2 =>
  J_istore_n (i := 2) (ls' := [some (.inr (1, 0)), some (.inl x1), some (.inl v2), none]) rfl rfl rfl rfl d_P_addSite_11 <|
  J_aload_n (i := 0) rfl rfl d_P_addSite_12 <|
  gP_30 rfl d_P_addSite_13 <|
  J_iload_n (i := 2) rfl rfl d_P_addSite_16 <|
  J_iload_n (i := 1) rfl rfl d_P_addSite_17 <|
  J_iast (((h) v2 ev2)).1 d_P_addSite_18 <|
  J_iconst (v := (0 : Int32)) d_P_addSite_19 (by decide) <|
  J_istore_n (i := 3) (ls' := [some (.inr (1, 0)), some (.inl x1), some (.inl v2), some (.inl (0 : Int32))]) rfl rfl rfl rfl d_P_addSite_20 <|
  (((h) v2 ev2)).2)
theorem r_P_addSite_21 {Q : Option mV → mS → Prop} {σ : mS} {x1 x2 x3 : Int32} (h : (x1 < x3 → (Q (some (.inl x2)) σ)) ∧ (¬ x1 < x3 → (vp_in x1 8 ∧ (MU M_O_hasBit [.inl (σ 5 x1.toNatClampNeg), .inl x3] σ (fun r s4 => ∃ r6, r = some (.inl r6) ∧ ((r6 = (0 : Int32) → (J M_P_addSite Q 21 [some (.inr (1, 0)), some (.inl x1), some (.inl x2), some (.inl (x3 + 1))] [] s4)) ∧ (¬ r6 = (0 : Int32) → (vp_in x3 8 ∧ (vp_in x3 8 ∧ (J M_P_addSite Q 21 [some (.inr (1, 0)), some (.inl x1), some (.inl x2), some (.inl (x3 + 1))] [] (m_up s4 6 x3.toNatClampNeg ((s4 6 x3.toNatClampNeg) ||| ((1 : Int32) <<< (x2 &&& 31)))))))))))))) : J M_P_addSite Q 21 [some (.inr (1, 0)), some (.inl x1), some (.inl x2), some (.inl x3)] [] σ :=
  J_iload_n (i := 3) rfl rfl d_P_addSite_21 <|
  J_iload_n (i := 1) rfl rfl d_P_addSite_22 <|
  J_icmp_gt (tgt := 57) d_P_addSite_23 (by decide) (fun c9 =>
  J_iload_n (i := 2) rfl rfl d_P_addSite_57 <|
  J_iret rfl d_P_addSite_58 (((h).1 c9))) (fun c9 =>
  J_aload_n (i := 0) rfl rfl d_P_addSite_26 <|
  gP_15 rfl d_P_addSite_27 <|
  J_iload_n (i := 1) rfl rfl d_P_addSite_30 <|
  J_iald (((h).2 c9)).1 d_P_addSite_31 <|
  J_iload_n (i := 3) rfl rfl d_P_addSite_32 <|
  kP_98_i rfl rfl rfl (args := [.inl (σ 5 x1.toNatClampNeg), .inl x3]) ((((h).2 c9)).2) d_P_addSite_33 (fun r6 s4 h5 =>
  J_if_eq (tgt := 51) d_P_addSite_36 (by decide) (fun c8 =>
  J_iinc (i := 3) (v := (x3 + 1)) (ls' := [some (.inr (1, 0)), some (.inl x1), some (.inl x2), some (.inl (x3 + 1))]) rfl rfl rfl rfl rfl d_P_addSite_51 <|
  J_goto (tgt := 21) d_P_addSite_54 (by decide) <|
  ((h5).1 c8)) (fun c8 =>
  J_aload_n (i := 0) rfl rfl d_P_addSite_39 <|
  gP_18 rfl d_P_addSite_40 <|
  J_iload_n (i := 3) rfl rfl d_P_addSite_43 <|
  J_dup2 d_P_addSite_44 <|
  J_iald (((h5).2 c8)).1 d_P_addSite_45 <|
  J_iconst (v := (1 : Int32)) d_P_addSite_46 (by decide) <|
  J_iload_n (i := 2) rfl rfl d_P_addSite_47 <|
  J_ishl d_P_addSite_48 <|
  J_ior d_P_addSite_49 <|
  J_iast ((((h5).2 c8)).2).1 d_P_addSite_50 <|
  J_iinc (i := 3) (v := (x3 + 1)) (ls' := [some (.inr (1, 0)), some (.inl x1), some (.inl x2), some (.inl (x3 + 1))]) rfl rfl rfl rfl rfl d_P_addSite_51 <|
  J_goto (tgt := 21) d_P_addSite_54 (by decide) <|
  ((((h5).2 c8)).2).2)))
theorem r_P_ownMethod_0 {Q : Option mV → mS → Prop} {σ : mS} {x1 x2 : Int32} (h : vp_in ((x1 * (nI 4)) + x2) 32 ∧ (Q (some (.inl (σ 7 ((x1 * (nI 4)) + x2).toNatClampNeg))) σ)) : J M_P_ownMethod Q 0 [some (.inr (1, 0)), some (.inl x1), some (.inl x2)] [] σ :=
  J_aload_n (i := 0) rfl rfl d_P_ownMethod_0 <|
  gP_21 rfl d_P_ownMethod_1 <|
  J_iload_n (i := 1) rfl rfl d_P_ownMethod_4 <|
  J_iconst (v := (nI 4)) d_P_ownMethod_5 (by decide) <|
  J_imul d_P_ownMethod_6 <|
  J_iload_n (i := 2) rfl rfl d_P_ownMethod_7 <|
  J_iadd d_P_ownMethod_8 <|
  J_iald (h).1 d_P_ownMethod_9 <|
  J_iret rfl d_P_ownMethod_10 ((h).2)
theorem r_P_methodFound_0 {Q : Option mV → mS → Prop} {σ : mS} {x1 x2 : Int32} (h : vp_in x1 20 ∧ (vp_in (((σ 10 x1.toNatClampNeg) * (nI 4)) + x2) 32 ∧ (Q (some (.inl (σ 8 (((σ 10 x1.toNatClampNeg) * (nI 4)) + x2).toNatClampNeg))) σ))) : J M_P_methodFound Q 0 [some (.inr (1, 0)), some (.inl x1), some (.inl x2)] [] σ :=
  J_aload_n (i := 0) rfl rfl d_P_methodFound_0 <|
  gP_24 rfl d_P_methodFound_1 <|
  J_aload_n (i := 0) rfl rfl d_P_methodFound_4 <|
  gP_30 rfl d_P_methodFound_5 <|
  J_iload_n (i := 1) rfl rfl d_P_methodFound_8 <|
  J_iald (h).1 d_P_methodFound_9 <|
  J_iconst (v := (nI 4)) d_P_methodFound_10 (by decide) <|
  J_imul d_P_methodFound_11 <|
  J_iload_n (i := 2) rfl rfl d_P_methodFound_12 <|
  J_iadd d_P_methodFound_13 <|
  J_iald ((h).2).1 d_P_methodFound_14 <|
  J_iret rfl d_P_methodFound_15 (((h).2).2)
theorem r_P_methodsFound_0 {Q : Option mV → mS → Prop} {σ : mS} {x1 x2 : Int32} (h : J M_P_methodsFound Q 5 [some (.inr (1, 0)), some (.inl x1), some (.inl x2), some (.inl (0 : Int32)), some (.inl (0 : Int32)), none] [] σ) : J M_P_methodsFound Q 0 [some (.inr (1, 0)), some (.inl x1), some (.inl x2), none, none, none] [] σ :=
  J_iconst (v := (0 : Int32)) d_P_methodsFound_0 (by decide) <|
  J_istore_n (i := 3) (ls' := [some (.inr (1, 0)), some (.inl x1), some (.inl x2), some (.inl (0 : Int32)), none, none]) rfl rfl rfl rfl d_P_methodsFound_1 <|
  J_iconst (v := (0 : Int32)) d_P_methodsFound_2 (by decide) <|
  J_istore (i := 4) (ls' := [some (.inr (1, 0)), some (.inl x1), some (.inl x2), some (.inl (0 : Int32)), some (.inl (0 : Int32)), none]) rfl rfl rfl d_P_methodsFound_3 <|
  h
theorem r_P_methodsFound_5 {Q : Option mV → mS → Prop} {σ : mS} {x1 x2 x3 x4 : Int32} {u5 : Option mV} (h : ((σ 1 4) ≤ x4 → (Q (some (.inl x3)) σ)) ∧ (¬ (σ 1 4) ≤ x4 → (MU M_P_methodFound [.inr (1, 0), .inl x4, .inl x2] σ (fun r s1 => ∃ r3, r = some (.inl r3) ∧ (MU M_O_hasBit [.inl x1, .inl x4] s1 (fun r s4 => ∃ r6, r = some (.inl r6) ∧ ((r6 = (0 : Int32) → (J M_P_methodsFound Q 5 [some (.inr (1, 0)), some (.inl x1), some (.inl x2), some (.inl x3), some (.inl (x4 + 1)), some (.inl r3)] [] s4)) ∧ (¬ r6 = (0 : Int32) → ((r3 = (-1 : Int32) → (J M_P_methodsFound Q 5 [some (.inr (1, 0)), some (.inl x1), some (.inl x2), some (.inl x3), some (.inl (x4 + 1)), some (.inl r3)] [] s4)) ∧ (¬ r3 = (-1 : Int32) → (J M_P_methodsFound Q 5 [some (.inr (1, 0)), some (.inl x1), some (.inl x2), some (.inl (x3 ||| ((1 : Int32) <<< (r3 &&& 31)))), some (.inl (x4 + 1)), some (.inl r3)] [] s4))))))))))) : J M_P_methodsFound Q 5 [some (.inr (1, 0)), some (.inl x1), some (.inl x2), some (.inl x3), some (.inl x4), u5] [] σ :=
  J_iload (i := 4) rfl d_P_methodsFound_5 <|
  J_aload_n (i := 0) rfl rfl d_P_methodsFound_7 <|
  gP_66 rfl d_P_methodsFound_8 <|
  J_icmp_ge (tgt := 51) d_P_methodsFound_11 (by decide) (fun c10 =>
  J_iload_n (i := 3) rfl rfl d_P_methodsFound_51 <|
  J_iret rfl d_P_methodsFound_52 (((h).1 c10))) (fun c10 =>
  J_aload_n (i := 0) rfl rfl d_P_methodsFound_14 <|
  J_iload (i := 4) rfl d_P_methodsFound_15 <|
  J_iload_n (i := 2) rfl rfl d_P_methodsFound_17 <|
  kP_102_i rfl rfl rfl (args := [.inl x4, .inl x2]) (((h).2 c10)) d_P_methodsFound_18 (fun r3 s1 h2 =>
  J_istore (i := 5) (ls' := [some (.inr (1, 0)), some (.inl x1), some (.inl x2), some (.inl x3), some (.inl x4), some (.inl r3)]) rfl rfl rfl d_P_methodsFound_21 <|
  J_iload_n (i := 1) rfl rfl d_P_methodsFound_23 <|
  J_iload (i := 4) rfl d_P_methodsFound_24 <|
  kP_98_i rfl rfl rfl (args := [.inl x1, .inl x4]) (h2) d_P_methodsFound_26 (fun r6 s4 h5 =>
  J_if_eq (tgt := 45) d_P_methodsFound_29 (by decide) (fun c9 =>
  J_iinc (i := 4) (v := (x4 + 1)) (ls' := [some (.inr (1, 0)), some (.inl x1), some (.inl x2), some (.inl x3), some (.inl (x4 + 1)), some (.inl r3)]) rfl rfl rfl rfl rfl d_P_methodsFound_45 <|
  J_goto (tgt := 5) d_P_methodsFound_48 (by decide) <|
  ((h5).1 c9)) (fun c9 =>
  J_iload (i := 5) rfl d_P_methodsFound_32 <|
  J_iconst (v := (-1 : Int32)) d_P_methodsFound_34 (by decide) <|
  J_icmp_eq (tgt := 45) d_P_methodsFound_35 (by decide) (fun c8 =>
  J_iinc (i := 4) (v := (x4 + 1)) (ls' := [some (.inr (1, 0)), some (.inl x1), some (.inl x2), some (.inl x3), some (.inl (x4 + 1)), some (.inl r3)]) rfl rfl rfl rfl rfl d_P_methodsFound_45 <|
  J_goto (tgt := 5) d_P_methodsFound_48 (by decide) <|
  ((((h5).2 c9)).1 c8)) (fun c8 =>
  J_iload_n (i := 3) rfl rfl d_P_methodsFound_38 <|
  J_iconst (v := (1 : Int32)) d_P_methodsFound_39 (by decide) <|
  J_iload (i := 5) rfl d_P_methodsFound_40 <|
  J_ishl d_P_methodsFound_42 <|
  J_ior d_P_methodsFound_43 <|
  J_istore_n (i := 3) (ls' := [some (.inr (1, 0)), some (.inl x1), some (.inl x2), some (.inl (x3 ||| ((1 : Int32) <<< (r3 &&& 31)))), some (.inl x4), some (.inl r3)]) rfl rfl rfl rfl d_P_methodsFound_44 <|
  J_iinc (i := 4) (v := (x4 + 1)) (ls' := [some (.inr (1, 0)), some (.inl x1), some (.inl x2), some (.inl (x3 ||| ((1 : Int32) <<< (r3 &&& 31)))), some (.inl (x4 + 1)), some (.inl r3)]) rfl rfl rfl rfl rfl d_P_methodsFound_45 <|
  J_goto (tgt := 5) d_P_methodsFound_48 (by decide) <|
  ((((h5).2 c9)).2 c8))))))
theorem r_P_sitesWith_0 {Q : Option mV → mS → Prop} {σ : mS} {x1 : Int32} (h : (¬ x1 = (nI 8) → (vp_in x1 8 ∧ (vp_in (σ 9 x1.toNatClampNeg) 8 ∧ (Q (some (.inl (σ 6 (σ 9 x1.toNatClampNeg).toNatClampNeg))) σ)))) ∧ (x1 = (nI 8) → (Q (some (.inl (((1 : Int32) <<< ((σ 1 4) &&& 31)) - (1 : Int32)))) σ))) : J M_P_sitesWith Q 0 [some (.inr (1, 0)), some (.inl x1)] [] σ :=
  J_iload_n (i := 1) rfl rfl d_P_sitesWith_0 <|
  J_bipush (v := (nI 8)) d_P_sitesWith_1 (by decide) <|
  J_icmp_ne (tgt := 17) d_P_sitesWith_3 (by decide) (fun c1 =>
  J_aload_n (i := 0) rfl rfl d_P_sitesWith_17 <|
  gP_18 rfl d_P_sitesWith_18 <|
  J_aload_n (i := 0) rfl rfl d_P_sitesWith_21 <|
  gP_27 rfl d_P_sitesWith_22 <|
  J_iload_n (i := 1) rfl rfl d_P_sitesWith_25 <|
  J_iald (((h).1 c1)).1 d_P_sitesWith_26 <|
  J_iald ((((h).1 c1)).2).1 d_P_sitesWith_27 <|
  J_iret rfl d_P_sitesWith_28 (((((h).1 c1)).2).2)) (fun c1 =>
  J_iconst (v := (1 : Int32)) d_P_sitesWith_6 (by decide) <|
  J_aload_n (i := 0) rfl rfl d_P_sitesWith_7 <|
  gP_66 rfl d_P_sitesWith_8 <|
  J_ishl d_P_sitesWith_11 <|
  J_iconst (v := (1 : Int32)) d_P_sitesWith_12 (by decide) <|
  J_isub d_P_sitesWith_13 <|
  J_goto (tgt := 28) d_P_sitesWith_14 (by decide) <|
  J_iret rfl d_P_sitesWith_28 (((h).2 c1)))
theorem r_P_statementOf_0 {Q : Option mV → mS → Prop} {σ : mS} {x1 x2 : Int32} (h : vp_in ((x1 * (nI 60)) + x2) 600 ∧ (vp_in (σ 12 ((x1 * (nI 60)) + x2).toNatClampNeg) 60 ∧ (Q (some (.inr (59, (σ 12 ((x1 * (nI 60)) + x2).toNatClampNeg).toNatClampNeg))) σ))) : J M_P_statementOf Q 0 [some (.inr (1, 0)), some (.inl x1), some (.inl x2)] [] σ :=
  J_aload_n (i := 0) rfl rfl d_P_statementOf_0 <|
  gP_35 rfl d_P_statementOf_1 <|
  J_aload_n (i := 0) rfl rfl d_P_statementOf_4 <|
  gP_42 rfl d_P_statementOf_5 <|
  J_iload_n (i := 1) rfl rfl d_P_statementOf_8 <|
  J_bipush (v := (nI 60)) d_P_statementOf_9 (by decide) <|
  J_imul d_P_statementOf_11 <|
  J_iload_n (i := 2) rfl rfl d_P_statementOf_12 <|
  J_iadd d_P_statementOf_13 <|
  J_iald (h).1 d_P_statementOf_14 <|
  J_aald ((h).2).1 d_P_statementOf_15 <|
  J_aret rfl d_P_statementOf_16 (((h).2).2)
theorem r_S_hasContext_0 {Q : Option mV → mS → Prop} {σ : mS} {x1 : Int32} (h : (x1 < (0 : Int32) → (Q (some (.inl (0 : Int32))) σ)) ∧ (¬ x1 < (0 : Int32) → (((σ 2 8) = (0 : Int32) → (((0 : Int32) < x1 → (Q (some (.inl (0 : Int32))) σ)) ∧ (¬ (0 : Int32) < x1 → (Q (some (.inl (1 : Int32))) σ)))) ∧ (¬ (σ 2 8) = (0 : Int32) → (((σ 1 4) < x1 → (Q (some (.inl (0 : Int32))) σ)) ∧ (¬ (σ 1 4) < x1 → (Q (some (.inl (1 : Int32))) σ))))))) : J M_S_hasContext Q 0 [some (.inr (2, 0)), some (.inl x1)] [] σ :=
  J_iload_n (i := 1) rfl rfl d_S_hasContext_0 <|
  J_if_lt (tgt := 30) d_S_hasContext_1 (by decide) (fun c4 =>
  J_iconst (v := (0 : Int32)) d_S_hasContext_30 (by decide) <|
  J_zret rfl (Or.inl rfl) d_S_hasContext_31 (((h).1 c4))) (fun c4 =>
  J_iload_n (i := 1) rfl rfl d_S_hasContext_4 <|
  J_aload_n (i := 0) rfl rfl d_S_hasContext_5 <|
  gS_25 rfl d_S_hasContext_6 <|
  J_if_eq (tgt := 22) d_S_hasContext_9 (by decide) (fun c3 =>
  J_iconst (v := (0 : Int32)) d_S_hasContext_22 (by decide) <|
  J_icmp_gt (tgt := 30) d_S_hasContext_23 (by decide) (fun c1 =>
  J_iconst (v := (0 : Int32)) d_S_hasContext_30 (by decide) <|
  J_zret rfl (Or.inl rfl) d_S_hasContext_31 (((((((h).2 c4)).1 c3)).1 c1))) (fun c1 =>
  J_iconst (v := (1 : Int32)) d_S_hasContext_26 (by decide) <|
  J_goto (tgt := 31) d_S_hasContext_27 (by decide) <|
  J_zret rfl (Or.inr rfl) d_S_hasContext_31 (((((((h).2 c4)).1 c3)).2 c1)))) (fun c3 =>
  J_aload_n (i := 0) rfl rfl d_S_hasContext_12 <|
  gS_21 rfl d_S_hasContext_13 <|
  gS_29 rfl d_S_hasContext_16 <|
  J_goto (tgt := 23) d_S_hasContext_19 (by decide) <|
  J_icmp_gt (tgt := 30) d_S_hasContext_23 (by decide) (fun c2 =>
  J_iconst (v := (0 : Int32)) d_S_hasContext_30 (by decide) <|
  J_zret rfl (Or.inl rfl) d_S_hasContext_31 (((((((h).2 c4)).2 c3)).1 c2))) (fun c2 =>
  J_iconst (v := (1 : Int32)) d_S_hasContext_26 (by decide) <|
  J_goto (tgt := 31) d_S_hasContext_27 (by decide) <|
  J_zret rfl (Or.inr rfl) d_S_hasContext_31 (((((((h).2 c4)).2 c3)).2 c2)))))
theorem r_S_contextOf_0 {Q : Option mV → mS → Prop} {σ : mS} {x1 : Int32} (h : ((σ 2 8) = (0 : Int32) → (Q (some (.inl (0 : Int32))) σ)) ∧ (¬ (σ 2 8) = (0 : Int32) → (Q (some (.inl ((1 : Int32) + x1))) σ))) : J M_S_contextOf Q 0 [some (.inr (2, 0)), some (.inl x1)] [] σ :=
  J_aload_n (i := 0) rfl rfl d_S_contextOf_0 <|
  gS_25 rfl d_S_contextOf_1 <|
  J_if_eq (tgt := 13) d_S_contextOf_4 (by decide) (fun c1 =>
  J_iconst (v := (0 : Int32)) d_S_contextOf_13 (by decide) <|
  J_iret rfl d_S_contextOf_14 (((h).1 c1))) (fun c1 =>
  J_iconst (v := (1 : Int32)) d_S_contextOf_7 (by decide) <|
  J_iload_n (i := 1) rfl rfl d_S_contextOf_8 <|
  J_iadd d_S_contextOf_9 <|
  J_goto (tgt := 14) d_S_contextOf_10 (by decide) <|
  J_iret rfl d_S_contextOf_14 (((h).2 c1)))
theorem r_S_at_0 {Q : Option mV → mS → Prop} {σ : mS} {x1 : Int32} (h : vp_in x1 1454 ∧ (Q (some (.inl (σ 14 x1.toNatClampNeg))) σ)) : J M_S_at Q 0 [some (.inr (2, 0)), some (.inl x1)] [] σ :=
  J_aload_n (i := 0) rfl rfl d_S_at_0 <|
  gS_15 rfl d_S_at_1 <|
  J_iload_n (i := 1) rfl rfl d_S_at_4 <|
  J_iald (h).1 d_S_at_5 <|
  J_iret rfl d_S_at_6 ((h).2)
theorem r_S_inAllContexts_0 {Q : Option mV → mS → Prop} {σ : mS} {x1 x2 : Int32} (h : J M_S_inAllContexts Q 5 [some (.inr (2, 0)), some (.inl x1), some (.inl x2), some (.inl (0 : Int32)), some (.inl (0 : Int32))] [] σ) : J M_S_inAllContexts Q 0 [some (.inr (2, 0)), some (.inl x1), some (.inl x2), none, none] [] σ :=
  J_iconst (v := (0 : Int32)) d_S_inAllContexts_0 (by decide) <|
  J_istore_n (i := 3) (ls' := [some (.inr (2, 0)), some (.inl x1), some (.inl x2), some (.inl (0 : Int32)), none]) rfl rfl rfl rfl d_S_inAllContexts_1 <|
  J_iconst (v := (0 : Int32)) d_S_inAllContexts_2 (by decide) <|
  J_istore (i := 4) (ls' := [some (.inr (2, 0)), some (.inl x1), some (.inl x2), some (.inl (0 : Int32)), some (.inl (0 : Int32))]) rfl rfl rfl d_S_inAllContexts_3 <|
  h
theorem r_S_inAllContexts_5 {Q : Option mV → mS → Prop} {σ : mS} {x1 x2 x3 x4 : Int32} (h : ((nI 21) ≤ x4 → (Q (some (.inl x3)) σ)) ∧ (¬ (nI 21) ≤ x4 → (MU M_O_namesOf [.inl x1, .inl x4] σ (fun r s1 => ∃ r3, r = some (.inl r3) ∧ (vp_in (r3 + x2) 1454 ∧ (J M_S_inAllContexts Q 5 [some (.inr (2, 0)), some (.inl x1), some (.inl x2), some (.inl (x3 ||| (s1 14 (r3 + x2).toNatClampNeg))), some (.inl (x4 + 1))] [] s1)))))) : J M_S_inAllContexts Q 5 [some (.inr (2, 0)), some (.inl x1), some (.inl x2), some (.inl x3), some (.inl x4)] [] σ :=
  J_iload (i := 4) rfl d_S_inAllContexts_5 <|
  J_bipush (v := (nI 21)) d_S_inAllContexts_7 (by decide) <|
  J_icmp_ge (tgt := 34) d_S_inAllContexts_9 (by decide) (fun c5 =>
  J_iload_n (i := 3) rfl rfl d_S_inAllContexts_34 <|
  J_iret rfl d_S_inAllContexts_35 (((h).1 c5))) (fun c5 =>
  J_iload_n (i := 3) rfl rfl d_S_inAllContexts_12 <|
  J_aload_n (i := 0) rfl rfl d_S_inAllContexts_13 <|
  gS_15 rfl d_S_inAllContexts_14 <|
  J_iload_n (i := 1) rfl rfl d_S_inAllContexts_17 <|
  J_iload (i := 4) rfl d_S_inAllContexts_18 <|
  kS_35_i rfl rfl rfl (args := [.inl x1, .inl x4]) (((h).2 c5)) d_S_inAllContexts_20 (fun r3 s1 h2 =>
  J_iload_n (i := 2) rfl rfl d_S_inAllContexts_23 <|
  J_iadd d_S_inAllContexts_24 <|
  J_iald (h2).1 d_S_inAllContexts_25 <|
  J_ior d_S_inAllContexts_26 <|
  J_istore_n (i := 3) (ls' := [some (.inr (2, 0)), some (.inl x1), some (.inl x2), some (.inl (x3 ||| (s1 14 (r3 + x2).toNatClampNeg))), some (.inl x4)]) rfl rfl rfl rfl d_S_inAllContexts_27 <|
  J_iinc (i := 4) (v := (x4 + 1)) (ls' := [some (.inr (2, 0)), some (.inl x1), some (.inl x2), some (.inl (x3 ||| (s1 14 (r3 + x2).toNatClampNeg))), some (.inl (x4 + 1))]) rfl rfl rfl rfl rfl d_S_inAllContexts_28 <|
  J_goto (tgt := 5) d_S_inAllContexts_31 (by decide) <|
  (h2).2))
theorem r_S_firstRound_0 {Q : Option mV → mS → Prop} {σ : mS} {x1 x2 x3 : Int32} (h : vp_in ((((x1 * (nI 6)) + x2) * (nI 20)) + x3) 1200 ∧ (Q (some (.inl (σ 15 ((((x1 * (nI 6)) + x2) * (nI 20)) + x3).toNatClampNeg))) σ)) : J M_S_firstRound Q 0 [some (.inr (2, 0)), some (.inl x1), some (.inl x2), some (.inl x3)] [] σ :=
  J_aload_n (i := 0) rfl rfl d_S_firstRound_0 <|
  gS_18 rfl d_S_firstRound_1 <|
  J_iload_n (i := 1) rfl rfl d_S_firstRound_4 <|
  J_bipush (v := (nI 6)) d_S_firstRound_5 (by decide) <|
  J_imul d_S_firstRound_7 <|
  J_iload_n (i := 2) rfl rfl d_S_firstRound_8 <|
  J_iadd d_S_firstRound_9 <|
  J_bipush (v := (nI 20)) d_S_firstRound_10 (by decide) <|
  J_imul d_S_firstRound_12 <|
  J_iload_n (i := 3) rfl rfl d_S_firstRound_13 <|
  J_iadd d_S_firstRound_14 <|
  J_iald (h).1 d_S_firstRound_15 <|
  J_iret rfl d_S_firstRound_16 ((h).2)
theorem r_S_settle_0 {Q : Option mV → mS → Prop} {σ : mS} (h : ((σ 2 7) = (0 : Int32) → (MU M_A_fill [.inr (14, 0), .inl (0 : Int32)] σ (fun r s1 => r = none ∧ (MU M_A_fill [.inr (15, 0), .inl (0 : Int32)] s1 (fun r s3 => r = none ∧ (((s3 1 2) ≤ (0 : Int32) → (J M_S_settle Q 48 [some (.inr (2, 0))] [] (m_up s3 2 4 (0 : Int32)))) ∧ (¬ (s3 1 2) ≤ (0 : Int32) → (vp_in (nI 1444) 1454 ∧ (J M_S_settle Q 48 [some (.inr (2, 0))] [] (m_up (m_up s3 14 (nI 1444).toNatClampNeg (1 : Int32)) 2 4 (0 : Int32))))))))))) ∧ (¬ (σ 2 7) = (0 : Int32) → (Q none σ))) : J M_S_settle Q 0 [some (.inr (2, 0))] [] σ :=
  J_aload_n (i := 0) rfl rfl d_S_settle_0 <|
  gS_39 rfl d_S_settle_1 <|
  J_if_eq (tgt := 8) d_S_settle_4 (by decide) (fun c9 =>
  J_aload_n (i := 0) rfl rfl d_S_settle_8 <|
  gS_15 rfl d_S_settle_9 <|
  J_iconst (v := (0 : Int32)) d_S_settle_12 (by decide) <|
  kS_42_v rfl rfl rfl (args := [.inr (14, 0), .inl (0 : Int32)]) (((h).1 c9)) d_S_settle_13 (fun s1 h2 =>
  J_aload_n (i := 0) rfl rfl d_S_settle_16 <|
  gS_18 rfl d_S_settle_17 <|
  J_iconst (v := (0 : Int32)) d_S_settle_20 (by decide) <|
  kS_42_v rfl rfl rfl (args := [.inr (15, 0), .inl (0 : Int32)]) (h2) d_S_settle_21 (fun s3 h4 =>
  J_aload_n (i := 0) rfl rfl d_S_settle_24 <|
  gS_21 rfl d_S_settle_25 <|
  gS_48 rfl d_S_settle_28 <|
  J_if_le (tgt := 43) d_S_settle_31 (by decide) (fun c8 =>
  J_aload_n (i := 0) rfl rfl d_S_settle_43 <|
  J_iconst (v := (0 : Int32)) d_S_settle_44 (by decide) <|
  pS_51 rfl d_S_settle_45 <|
  ((h4).1 c8)) (fun c8 =>
  J_aload_n (i := 0) rfl rfl d_S_settle_34 <|
  gS_15 rfl d_S_settle_35 <|
  J_sipush (v := (nI 1444)) d_S_settle_38 (by decide) <|
  J_iconst (v := (1 : Int32)) d_S_settle_41 (by decide) <|
  J_iast (((h4).2 c8)).1 d_S_settle_42 <|
  J_aload_n (i := 0) rfl rfl d_S_settle_43 <|
  J_iconst (v := (0 : Int32)) d_S_settle_44 (by decide) <|
  pS_51 rfl d_S_settle_45 <|
  (((h4).2 c8)).2)))) (fun c9 =>
  J_vret rfl d_S_settle_7 (((h).2 c9)))
theorem r_S_settle_48 {Q : Option mV → mS → Prop} {σ : mS} (h : (¬ (0 : Int32) < 0 ∧ ¬ (0 : Int32) < 0 ∧ ¬ (nI 1454) < 0 ∧ (0 : Int32).toNatClampNeg + (nI 1454).toNatClampNeg ≤ 1454 ∧ (0 : Int32).toNatClampNeg + (nI 1454).toNatClampNeg ≤ 1454) ∧ (MU M_S_doRound [.inr (2, 0)] (m_up (m_cp (m_up σ 2 4 ((σ 2 4) + (1 : Int32))) 14 13 (0 : Int32).toNatClampNeg (0 : Int32).toNatClampNeg (nI 1454).toNatClampNeg) 2 5 (0 : Int32)) (fun r s12 => r = none ∧ (((s12 2 5) = (0 : Int32) → (Q none (m_up (m_up s12 2 6 ((s12 2 4) - (1 : Int32))) 2 7 (1 : Int32)))) ∧ (¬ (s12 2 5) = (0 : Int32) → (((s12 2 4) < (nI 46528) → (J M_S_settle Q 48 [some (.inr (2, 0))] [] s12)) ∧ (¬ (s12 2 4) < (nI 46528) → (Q none (m_up (m_up s12 2 6 ((s12 2 4) - (1 : Int32))) 2 7 (1 : Int32)))))))))) : J M_S_settle Q 48 [some (.inr (2, 0))] [] σ :=
  J_aload_n (i := 0) rfl rfl d_S_settle_48 <|
  J_dup d_S_settle_49 <|
  gS_51 rfl d_S_settle_50 <|
  J_iconst (v := (1 : Int32)) d_S_settle_53 (by decide) <|
  J_iadd d_S_settle_54 <|
  pS_51 rfl d_S_settle_55 <|
  J_aload_n (i := 0) rfl rfl d_S_settle_58 <|
  gS_15 rfl d_S_settle_59 <|
  J_iconst (v := (0 : Int32)) d_S_settle_62 (by decide) <|
  J_aload_n (i := 0) rfl rfl d_S_settle_63 <|
  gS_9 rfl d_S_settle_64 <|
  J_iconst (v := (0 : Int32)) d_S_settle_67 (by decide) <|
  J_sipush (v := (nI 1454)) d_S_settle_68 (by decide) <|
  J_copy cp_S_54 (h).1 (by decide) (by decide) rfl (by decide +kernel) rfl d_S_settle_71 <|
  J_aload_n (i := 0) rfl rfl d_S_settle_74 <|
  J_iconst (v := (0 : Int32)) d_S_settle_75 (by decide) <|
  pS_60 rfl (Or.inl rfl) d_S_settle_76 <|
  J_aload_n (i := 0) rfl rfl d_S_settle_79 <|
  kS_63_v rfl rfl rfl (args := []) ((h).2) d_S_settle_80 (fun s12 h13 =>
  J_aload_n (i := 0) rfl rfl d_S_settle_83 <|
  gS_60 rfl d_S_settle_84 <|
  J_if_eq (tgt := 99) d_S_settle_87 (by decide) (fun c19 =>
  J_aload_n (i := 0) rfl rfl d_S_settle_99 <|
  J_aload_n (i := 0) rfl rfl d_S_settle_100 <|
  gS_51 rfl d_S_settle_101 <|
  J_iconst (v := (1 : Int32)) d_S_settle_104 (by decide) <|
  J_isub d_S_settle_105 <|
  pS_67 rfl d_S_settle_106 <|
  J_aload_n (i := 0) rfl rfl d_S_settle_109 <|
  J_iconst (v := (1 : Int32)) d_S_settle_110 (by decide) <|
  pS_39 rfl (Or.inr rfl) d_S_settle_111 <|
  J_vret rfl d_S_settle_114 (((h13).1 c19))) (fun c19 =>
  J_aload_n (i := 0) rfl rfl d_S_settle_90 <|
  gS_51 rfl d_S_settle_91 <|
  J_ldc (v := (nI 46528)) ldc_S_66 rfl d_S_settle_94 <|
  J_icmp_lt (tgt := 48) d_S_settle_96 (by decide) (fun c18 =>
  ((((h13).2 c19)).1 c18)) (fun c18 =>
  J_aload_n (i := 0) rfl rfl d_S_settle_99 <|
  J_aload_n (i := 0) rfl rfl d_S_settle_100 <|
  gS_51 rfl d_S_settle_101 <|
  J_iconst (v := (1 : Int32)) d_S_settle_104 (by decide) <|
  J_isub d_S_settle_105 <|
  pS_67 rfl d_S_settle_106 <|
  J_aload_n (i := 0) rfl rfl d_S_settle_109 <|
  J_iconst (v := (1 : Int32)) d_S_settle_110 (by decide) <|
  pS_39 rfl (Or.inr rfl) d_S_settle_111 <|
  J_vret rfl d_S_settle_114 (((((h13).2 c19)).2 c18)))))
theorem r_S_doRound_0 {Q : Option mV → mS → Prop} {σ : mS} (h : J M_S_doRound Q 2 [some (.inr (2, 0)), some (.inl (0 : Int32)), none, none, none, none] [] σ) : J M_S_doRound Q 0 [some (.inr (2, 0)), none, none, none, none, none] [] σ :=
  J_iconst (v := (0 : Int32)) d_S_doRound_0 (by decide) <|
  J_istore_n (i := 1) (ls' := [some (.inr (2, 0)), some (.inl (0 : Int32)), none, none, none, none]) rfl rfl rfl rfl d_S_doRound_1 <|
  h
theorem r_S_doRound_2 {Q : Option mV → mS → Prop} {σ : mS} {x1 : Int32} {u2 u3 u4 u5 : Option mV} (h : ((σ 1 2) ≤ x1 → (Q none σ)) ∧ (¬ (σ 1 2) ≤ x1 → (vp_in ((nI 1444) + x1) 1454 ∧ (J M_S_doRound Q 26 [some (.inr (2, 0)), some (.inl x1), some (.inl (σ 13 ((nI 1444) + x1).toNatClampNeg)), some (.inl (0 : Int32)), u4, u5] [] σ)))) : J M_S_doRound Q 2 [some (.inr (2, 0)), some (.inl x1), u2, u3, u4, u5] [] σ :=
  J_iload_n (i := 1) rfl rfl d_S_doRound_2 <|
  J_aload_n (i := 0) rfl rfl d_S_doRound_3 <|
  gS_21 rfl d_S_doRound_4 <|
  gS_48 rfl d_S_doRound_7 <|
  J_icmp_ge (tgt := 102) d_S_doRound_10 (by decide) (fun c2 =>
  J_vret rfl d_S_doRound_102 (((h).1 c2))) (fun c2 =>
  J_aload_n (i := 0) rfl rfl d_S_doRound_13 <|
  gS_9 rfl d_S_doRound_14 <|
  J_sipush (v := (nI 1444)) d_S_doRound_17 (by decide) <|
  J_iload_n (i := 1) rfl rfl d_S_doRound_20 <|
  J_iadd d_S_doRound_21 <|
  J_iald (((h).2 c2)).1 d_S_doRound_22 <|
  J_istore_n (i := 2) (ls' := [some (.inr (2, 0)), some (.inl x1), some (.inl (σ 13 ((nI 1444) + x1).toNatClampNeg)), u3, u4, u5]) rfl rfl rfl rfl d_S_doRound_23 <|
  J_iconst (v := (0 : Int32)) d_S_doRound_24 (by decide) <|
  J_istore_n (i := 3) (ls' := [some (.inr (2, 0)), some (.inl x1), some (.inl (σ 13 ((nI 1444) + x1).toNatClampNeg)), some (.inl (0 : Int32)), u4, u5]) rfl rfl rfl rfl d_S_doRound_25 <|
  (((h).2 c2)).2)
theorem r_S_doRound_26 {Q : Option mV → mS → Prop} {σ : mS} {x1 x2 x3 : Int32} {u4 u5 : Option mV} (h : ((nI 21) ≤ x3 → (J M_S_doRound Q 2 [some (.inr (2, 0)), some (.inl (x1 + 1)), some (.inl x2), some (.inl x3), u4, u5] [] σ)) ∧ (¬ (nI 21) ≤ x3 → (MU M_O_hasBit [.inl x2, .inl x3] σ (fun r s3 => ∃ r5, r = some (.inl r5) ∧ ((r5 = (0 : Int32) → (J M_S_doRound Q 58 [some (.inr (2, 0)), some (.inl x1), some (.inl x2), some (.inl x3), some (.inl (0 : Int32)), some (.inl (0 : Int32))] [] s3)) ∧ (¬ r5 = (0 : Int32) → (vp_in x1 10 ∧ (J M_S_doRound Q 58 [some (.inr (2, 0)), some (.inl x1), some (.inl x2), some (.inl x3), some (.inl (s3 11 x1.toNatClampNeg)), some (.inl (0 : Int32))] [] s3)))))))) : J M_S_doRound Q 26 [some (.inr (2, 0)), some (.inl x1), some (.inl x2), some (.inl x3), u4, u5] [] σ :=
  J_iload_n (i := 3) rfl rfl d_S_doRound_26 <|
  J_bipush (v := (nI 21)) d_S_doRound_27 (by decide) <|
  J_icmp_ge (tgt := 96) d_S_doRound_29 (by decide) (fun c8 =>
  J_iinc (i := 1) (v := (x1 + 1)) (ls' := [some (.inr (2, 0)), some (.inl (x1 + 1)), some (.inl x2), some (.inl x3), u4, u5]) rfl rfl rfl rfl rfl d_S_doRound_96 <|
  J_goto (tgt := 2) d_S_doRound_99 (by decide) <|
  ((h).1 c8)) (fun c8 =>
  J_iload_n (i := 2) rfl rfl d_S_doRound_32 <|
  J_iload_n (i := 3) rfl rfl d_S_doRound_33 <|
  kS_70_i rfl rfl rfl (args := [.inl x2, .inl x3]) (((h).2 c8)) d_S_doRound_34 (fun r5 s3 h4 =>
  J_if_eq (tgt := 52) d_S_doRound_37 (by decide) (fun c7 =>
  J_iconst (v := (0 : Int32)) d_S_doRound_52 (by decide) <|
  J_istore (i := 4) (ls' := [some (.inr (2, 0)), some (.inl x1), some (.inl x2), some (.inl x3), some (.inl (0 : Int32)), u5]) rfl rfl rfl d_S_doRound_53 <|
  J_iconst (v := (0 : Int32)) d_S_doRound_55 (by decide) <|
  J_istore (i := 5) (ls' := [some (.inr (2, 0)), some (.inl x1), some (.inl x2), some (.inl x3), some (.inl (0 : Int32)), some (.inl (0 : Int32))]) rfl rfl rfl d_S_doRound_56 <|
  ((h4).1 c7)) (fun c7 =>
  J_aload_n (i := 0) rfl rfl d_S_doRound_40 <|
  gS_21 rfl d_S_doRound_41 <|
  gS_74 rfl d_S_doRound_44 <|
  J_iload_n (i := 1) rfl rfl d_S_doRound_47 <|
  J_iald (((h4).2 c7)).1 d_S_doRound_48 <|
  J_goto (tgt := 53) d_S_doRound_49 (by decide) <|
  J_istore (i := 4) (ls' := [some (.inr (2, 0)), some (.inl x1), some (.inl x2), some (.inl x3), some (.inl (s3 11 x1.toNatClampNeg)), u5]) rfl rfl rfl d_S_doRound_53 <|
  J_iconst (v := (0 : Int32)) d_S_doRound_55 (by decide) <|
  J_istore (i := 5) (ls' := [some (.inr (2, 0)), some (.inl x1), some (.inl x2), some (.inl x3), some (.inl (s3 11 x1.toNatClampNeg)), some (.inl (0 : Int32))]) rfl rfl rfl d_S_doRound_56 <|
  (((h4).2 c7)).2)))
theorem r_S_doRound_58 {Q : Option mV → mS → Prop} {σ : mS} {x1 x2 x3 x4 x5 : Int32} (h : (x4 ≤ x5 → (J M_S_doRound Q 26 [some (.inr (2, 0)), some (.inl x1), some (.inl x2), some (.inl (x3 + 1)), some (.inl x4), some (.inl x5)] [] σ)) ∧ (¬ x4 ≤ x5 → (MU M_P_statementOf [.inr (1, 0), .inl x1, .inl x5] σ (fun r s9 => ∃ n11, r = some (.inr (59, n11)) ∧ (MU M_O_namesOf [.inl x1, .inl x3] s9 (fun r s12 => ∃ r14, r = some (.inl r14) ∧ (MU M_S_doStatement [.inr (2, 0), .inr (59, n11), .inl r14] s12 (fun r s15 => r = none ∧ (J M_S_doRound Q 58 [some (.inr (2, 0)), some (.inl x1), some (.inl x2), some (.inl x3), some (.inl x4), some (.inl (x5 + 1))] [] s15))))))))) : J M_S_doRound Q 58 [some (.inr (2, 0)), some (.inl x1), some (.inl x2), some (.inl x3), some (.inl x4), some (.inl x5)] [] σ :=
  J_iload (i := 5) rfl d_S_doRound_58 <|
  J_iload (i := 4) rfl d_S_doRound_60 <|
  J_icmp_ge (tgt := 90) d_S_doRound_62 (by decide) (fun c17 =>
  J_iinc (i := 3) (v := (x3 + 1)) (ls' := [some (.inr (2, 0)), some (.inl x1), some (.inl x2), some (.inl (x3 + 1)), some (.inl x4), some (.inl x5)]) rfl rfl rfl rfl rfl d_S_doRound_90 <|
  J_goto (tgt := 26) d_S_doRound_93 (by decide) <|
  ((h).1 c17)) (fun c17 =>
  J_aload_n (i := 0) rfl rfl d_S_doRound_65 <|
  J_aload_n (i := 0) rfl rfl d_S_doRound_66 <|
  gS_21 rfl d_S_doRound_67 <|
  J_iload_n (i := 1) rfl rfl d_S_doRound_70 <|
  J_iload (i := 5) rfl d_S_doRound_71 <|
  kS_77_r rfl rfl rfl (args := [.inl x1, .inl x5]) (((h).2 c17)) d_S_doRound_73 (fun n11 s9 h10 =>
  J_iload_n (i := 1) rfl rfl d_S_doRound_76 <|
  J_iload_n (i := 3) rfl rfl d_S_doRound_77 <|
  kS_35_i rfl rfl rfl (args := [.inl x1, .inl x3]) (h10) d_S_doRound_78 (fun r14 s12 h13 =>
  kS_81_v rfl rfl rfl (args := [.inr (59, n11), .inl r14]) (h13) d_S_doRound_81 (fun s15 h16 =>
  J_iinc (i := 5) (v := (x5 + 1)) (ls' := [some (.inr (2, 0)), some (.inl x1), some (.inl x2), some (.inl x3), some (.inl x4), some (.inl (x5 + 1))]) rfl rfl rfl rfl rfl d_S_doRound_84 <|
  J_goto (tgt := 58) d_S_doRound_87 (by decide) <|
  h16))))
theorem r_S_doStatement_0 {Q : Option mV → mS → Prop} {σ : mS} {x2 : Int32} {n1 : Nat} (h : ∀ v1, v1 = (x2 + (σ (59 + n1 % 60) 3)) → (∀ v2, v2 = (x2 + (σ (59 + n1 % 60) 4)) → (((σ (59 + n1 % 60) 2) = (0 : Int32) → (MU M_S_add [.inr (2, 0), .inl v1, .inl ((1 : Int32) <<< ((σ (59 + n1 % 60) 1) &&& 31))] σ (fun r s3 => r = none ∧ (Q none s3)))) ∧ ((σ (59 + n1 % 60) 2) = (1 : Int32) → (vp_in v2 1454 ∧ (MU M_S_add [.inr (2, 0), .inl v1, .inl (σ 13 v2.toNatClampNeg)] σ (fun r s5 => r = none ∧ (Q none s5))))) ∧ ((σ (59 + n1 % 60) 2) = (nI 2) → (vp_in v2 1454 ∧ (MU M_S_addFromSlot [.inr (2, 0), .inl v1, .inl (σ 13 v2.toNatClampNeg), .inl (σ (59 + n1 % 60) 5)] σ (fun r s7 => r = none ∧ (Q none s7))))) ∧ ((σ (59 + n1 % 60) 2) = (nI 3) → (vp_in v1 1454 ∧ (vp_in v2 1454 ∧ (MU M_S_addToSlot [.inr (2, 0), .inl (σ 13 v1.toNatClampNeg), .inl (σ (59 + n1 % 60) 5), .inl (σ 13 v2.toNatClampNeg)] σ (fun r s9 => r = none ∧ (Q none s9)))))) ∧ ((σ (59 + n1 % 60) 2) = (nI 4) → (vp_in v2 1454 ∧ (vp_in (σ (59 + n1 % 60) 5) 8 ∧ (MU M_S_add [.inr (2, 0), .inl v1, .inl ((σ 13 v2.toNatClampNeg) &&& (σ 6 (σ (59 + n1 % 60) 5).toNatClampNeg))] σ (fun r s11 => r = none ∧ (Q none s11)))))) ∧ ((σ (59 + n1 % 60) 2) = (nI 5) → (vp_in ((nI 1440) + (σ (59 + n1 % 60) 4)) 1454 ∧ (MU M_S_add [.inr (2, 0), .inl v1, .inl (σ 13 ((nI 1440) + (σ (59 + n1 % 60) 4)).toNatClampNeg)] σ (fun r s13 => r = none ∧ (Q none s13))))) ∧ ((σ (59 + n1 % 60) 2) = (nI 6) → (vp_in v2 1454 ∧ (MU M_S_add [.inr (2, 0), .inl ((nI 1440) + (σ (59 + n1 % 60) 3)), .inl (σ 13 v2.toNatClampNeg)] σ (fun r s15 => r = none ∧ (Q none s15))))) ∧ ((σ (59 + n1 % 60) 2) = (nI 7) → (MU M_S_doCall [.inr (2, 0), .inr (59, n1), .inl x2] σ (fun r s17 => r = none ∧ (Q none s17)))) ∧ ((σ (59 + n1 % 60) 2) = (nI 8) → (vp_in v2 1454 ∧ (MU M_S_addFromSlot [.inr (2, 0), .inl v1, .inl (σ 13 v2.toNatClampNeg), .inl (nI 8)] σ (fun r s19 => r = none ∧ (Q none s19))))) ∧ (¬ (σ (59 + n1 % 60) 2) = (0 : Int32) → ¬ (σ (59 + n1 % 60) 2) = (1 : Int32) → ¬ (σ (59 + n1 % 60) 2) = (nI 2) → ¬ (σ (59 + n1 % 60) 2) = (nI 3) → ¬ (σ (59 + n1 % 60) 2) = (nI 4) → ¬ (σ (59 + n1 % 60) 2) = (nI 5) → ¬ (σ (59 + n1 % 60) 2) = (nI 6) → ¬ (σ (59 + n1 % 60) 2) = (nI 7) → ¬ (σ (59 + n1 % 60) 2) = (nI 8) → (vp_in v1 1454 ∧ (vp_in v2 1454 ∧ (MU M_S_addToSlot [.inr (2, 0), .inl (σ 13 v1.toNatClampNeg), .inl (nI 8), .inl (σ 13 v2.toNatClampNeg)] σ (fun r s21 => r = none ∧ (Q none s21))))))))) : J M_S_doStatement Q 0 [some (.inr (2, 0)), some (.inr (59, n1)), some (.inl x2), none, none] [] σ :=
  J_iload_n (i := 2) rfl rfl d_S_doStatement_0 <|
  J_aload_n (i := 1) rfl rfl d_S_doStatement_1 <|
  gS_85 rfl d_S_doStatement_2 <|
  J_iadd d_S_doStatement_5 <|
  J_namei (fun v1 ev1 =>
  J_istore_n (i := 3) (ls' := [some (.inr (2, 0)), some (.inr (59, n1)), some (.inl x2), some (.inl v1), none]) rfl rfl rfl rfl d_S_doStatement_6 <|
  J_iload_n (i := 2) rfl rfl d_S_doStatement_7 <|
  J_aload_n (i := 1) rfl rfl d_S_doStatement_8 <|
  gS_90 rfl d_S_doStatement_9 <|
  J_iadd d_S_doStatement_12 <|
  J_namei (fun v2 ev2 =>
  J_istore (i := 4) (ls' := [some (.inr (2, 0)), some (.inr (59, n1)), some (.inl x2), some (.inl v1), some (.inl v2)]) rfl rfl rfl d_S_doStatement_13 <|
  J_aload_n (i := 1) rfl rfl d_S_doStatement_15 <|
  gS_93 rfl d_S_doStatement_16 <|
  Classical.byCases (p := (σ (59 + n1 % 60) 2) = (0 : Int32)) (fun c23 => J_tabIn (tgt := 68) c23 d_S_doStatement_19 (by decide) (by decide) rfl (by decide) <|
  J_aload_n (i := 0) rfl rfl d_S_doStatement_68 <|
  J_iload_n (i := 3) rfl rfl d_S_doStatement_69 <|
  J_iconst (v := (1 : Int32)) d_S_doStatement_70 (by decide) <|
  J_aload_n (i := 1) rfl rfl d_S_doStatement_71 <|
  gS_96 rfl d_S_doStatement_72 <|
  J_ishl d_S_doStatement_75 <|
  kS_99_v rfl rfl rfl (args := [.inl v1, .inl ((1 : Int32) <<< ((σ (59 + n1 % 60) 1) &&& 31))]) (((((((h) v1 ev1)) v2 ev2)).1 c23)) d_S_doStatement_76 (fun s3 h4 =>
  J_goto (tgt := 256) d_S_doStatement_79 (by decide) <|
  J_vret rfl d_S_doStatement_256 (h4))) <| fun c23_0 =>
  Classical.byCases (p := (σ (59 + n1 % 60) 2) = (1 : Int32)) (fun c23 => J_tabIn (tgt := 82) c23 d_S_doStatement_19 (by decide) (by decide) rfl (by decide) <|
  J_aload_n (i := 0) rfl rfl d_S_doStatement_82 <|
  J_iload_n (i := 3) rfl rfl d_S_doStatement_83 <|
  J_aload_n (i := 0) rfl rfl d_S_doStatement_84 <|
  gS_9 rfl d_S_doStatement_85 <|
  J_iload (i := 4) rfl d_S_doStatement_88 <|
  J_iald ((((((((h) v1 ev1)) v2 ev2)).2).1 c23)).1 d_S_doStatement_90 <|
  kS_99_v rfl rfl rfl (args := [.inl v1, .inl (σ 13 v2.toNatClampNeg)]) (((((((((h) v1 ev1)) v2 ev2)).2).1 c23)).2) d_S_doStatement_91 (fun s5 h6 =>
  J_goto (tgt := 256) d_S_doStatement_94 (by decide) <|
  J_vret rfl d_S_doStatement_256 (h6))) <| fun c23_1 =>
  Classical.byCases (p := (σ (59 + n1 % 60) 2) = (nI 2)) (fun c23 => J_tabIn (tgt := 97) c23 d_S_doStatement_19 (by decide) (by decide) rfl (by decide) <|
  J_aload_n (i := 0) rfl rfl d_S_doStatement_97 <|
  J_iload_n (i := 3) rfl rfl d_S_doStatement_98 <|
  J_aload_n (i := 0) rfl rfl d_S_doStatement_99 <|
  gS_9 rfl d_S_doStatement_100 <|
  J_iload (i := 4) rfl d_S_doStatement_103 <|
  J_iald (((((((((h) v1 ev1)) v2 ev2)).2).2).1 c23)).1 d_S_doStatement_105 <|
  J_aload_n (i := 1) rfl rfl d_S_doStatement_106 <|
  gS_103 rfl d_S_doStatement_107 <|
  kS_106_v rfl rfl rfl (args := [.inl v1, .inl (σ 13 v2.toNatClampNeg), .inl (σ (59 + n1 % 60) 5)]) ((((((((((h) v1 ev1)) v2 ev2)).2).2).1 c23)).2) d_S_doStatement_110 (fun s7 h8 =>
  J_goto (tgt := 256) d_S_doStatement_113 (by decide) <|
  J_vret rfl d_S_doStatement_256 (h8))) <| fun c23_2 =>
  Classical.byCases (p := (σ (59 + n1 % 60) 2) = (nI 3)) (fun c23 => J_tabIn (tgt := 116) c23 d_S_doStatement_19 (by decide) (by decide) rfl (by decide) <|
  J_aload_n (i := 0) rfl rfl d_S_doStatement_116 <|
  J_aload_n (i := 0) rfl rfl d_S_doStatement_117 <|
  gS_9 rfl d_S_doStatement_118 <|
  J_iload_n (i := 3) rfl rfl d_S_doStatement_121 <|
  J_iald ((((((((((h) v1 ev1)) v2 ev2)).2).2).2).1 c23)).1 d_S_doStatement_122 <|
  J_aload_n (i := 1) rfl rfl d_S_doStatement_123 <|
  gS_103 rfl d_S_doStatement_124 <|
  J_aload_n (i := 0) rfl rfl d_S_doStatement_127 <|
  gS_9 rfl d_S_doStatement_128 <|
  J_iload (i := 4) rfl d_S_doStatement_131 <|
  J_iald (((((((((((h) v1 ev1)) v2 ev2)).2).2).2).1 c23)).2).1 d_S_doStatement_133 <|
  kS_110_v rfl rfl rfl (args := [.inl (σ 13 v1.toNatClampNeg), .inl (σ (59 + n1 % 60) 5), .inl (σ 13 v2.toNatClampNeg)]) ((((((((((((h) v1 ev1)) v2 ev2)).2).2).2).1 c23)).2).2) d_S_doStatement_134 (fun s9 h10 =>
  J_goto (tgt := 256) d_S_doStatement_137 (by decide) <|
  J_vret rfl d_S_doStatement_256 (h10))) <| fun c23_3 =>
  Classical.byCases (p := (σ (59 + n1 % 60) 2) = (nI 4)) (fun c23 => J_tabIn (tgt := 140) c23 d_S_doStatement_19 (by decide) (by decide) rfl (by decide) <|
  J_aload_n (i := 0) rfl rfl d_S_doStatement_140 <|
  J_iload_n (i := 3) rfl rfl d_S_doStatement_141 <|
  J_aload_n (i := 0) rfl rfl d_S_doStatement_142 <|
  gS_9 rfl d_S_doStatement_143 <|
  J_iload (i := 4) rfl d_S_doStatement_146 <|
  J_iald (((((((((((h) v1 ev1)) v2 ev2)).2).2).2).2).1 c23)).1 d_S_doStatement_148 <|
  J_aload_n (i := 0) rfl rfl d_S_doStatement_149 <|
  gS_21 rfl d_S_doStatement_150 <|
  gS_113 rfl d_S_doStatement_153 <|
  J_aload_n (i := 1) rfl rfl d_S_doStatement_156 <|
  gS_103 rfl d_S_doStatement_157 <|
  J_iald ((((((((((((h) v1 ev1)) v2 ev2)).2).2).2).2).1 c23)).2).1 d_S_doStatement_160 <|
  J_iand d_S_doStatement_161 <|
  kS_99_v rfl rfl rfl (args := [.inl v1, .inl ((σ 13 v2.toNatClampNeg) &&& (σ 6 (σ (59 + n1 % 60) 5).toNatClampNeg))]) (((((((((((((h) v1 ev1)) v2 ev2)).2).2).2).2).1 c23)).2).2) d_S_doStatement_162 (fun s11 h12 =>
  J_goto (tgt := 256) d_S_doStatement_165 (by decide) <|
  J_vret rfl d_S_doStatement_256 (h12))) <| fun c23_4 =>
  Classical.byCases (p := (σ (59 + n1 % 60) 2) = (nI 5)) (fun c23 => J_tabIn (tgt := 168) c23 d_S_doStatement_19 (by decide) (by decide) rfl (by decide) <|
  J_aload_n (i := 0) rfl rfl d_S_doStatement_168 <|
  J_iload_n (i := 3) rfl rfl d_S_doStatement_169 <|
  J_aload_n (i := 0) rfl rfl d_S_doStatement_170 <|
  gS_9 rfl d_S_doStatement_171 <|
  J_sipush (v := (nI 1440)) d_S_doStatement_174 (by decide) <|
  J_aload_n (i := 1) rfl rfl d_S_doStatement_177 <|
  gS_90 rfl d_S_doStatement_178 <|
  J_iadd d_S_doStatement_181 <|
  J_iald ((((((((((((h) v1 ev1)) v2 ev2)).2).2).2).2).2).1 c23)).1 d_S_doStatement_182 <|
  kS_99_v rfl rfl rfl (args := [.inl v1, .inl (σ 13 ((nI 1440) + (σ (59 + n1 % 60) 4)).toNatClampNeg)]) (((((((((((((h) v1 ev1)) v2 ev2)).2).2).2).2).2).1 c23)).2) d_S_doStatement_183 (fun s13 h14 =>
  J_goto (tgt := 256) d_S_doStatement_186 (by decide) <|
  J_vret rfl d_S_doStatement_256 (h14))) <| fun c23_5 =>
  Classical.byCases (p := (σ (59 + n1 % 60) 2) = (nI 6)) (fun c23 => J_tabIn (tgt := 189) c23 d_S_doStatement_19 (by decide) (by decide) rfl (by decide) <|
  J_aload_n (i := 0) rfl rfl d_S_doStatement_189 <|
  J_sipush (v := (nI 1440)) d_S_doStatement_190 (by decide) <|
  J_aload_n (i := 1) rfl rfl d_S_doStatement_193 <|
  gS_85 rfl d_S_doStatement_194 <|
  J_iadd d_S_doStatement_197 <|
  J_aload_n (i := 0) rfl rfl d_S_doStatement_198 <|
  gS_9 rfl d_S_doStatement_199 <|
  J_iload (i := 4) rfl d_S_doStatement_202 <|
  J_iald (((((((((((((h) v1 ev1)) v2 ev2)).2).2).2).2).2).2).1 c23)).1 d_S_doStatement_204 <|
  kS_99_v rfl rfl rfl (args := [.inl ((nI 1440) + (σ (59 + n1 % 60) 3)), .inl (σ 13 v2.toNatClampNeg)]) ((((((((((((((h) v1 ev1)) v2 ev2)).2).2).2).2).2).2).1 c23)).2) d_S_doStatement_205 (fun s15 h16 =>
  J_goto (tgt := 256) d_S_doStatement_208 (by decide) <|
  J_vret rfl d_S_doStatement_256 (h16))) <| fun c23_6 =>
  Classical.byCases (p := (σ (59 + n1 % 60) 2) = (nI 7)) (fun c23 => J_tabIn (tgt := 211) c23 d_S_doStatement_19 (by decide) (by decide) rfl (by decide) <|
  J_aload_n (i := 0) rfl rfl d_S_doStatement_211 <|
  J_aload_n (i := 1) rfl rfl d_S_doStatement_212 <|
  J_iload_n (i := 2) rfl rfl d_S_doStatement_213 <|
  kS_116_v rfl rfl rfl (args := [.inr (59, n1), .inl x2]) ((((((((((((((h) v1 ev1)) v2 ev2)).2).2).2).2).2).2).2).1 c23)) d_S_doStatement_214 (fun s17 h18 =>
  J_goto (tgt := 256) d_S_doStatement_217 (by decide) <|
  J_vret rfl d_S_doStatement_256 (h18))) <| fun c23_7 =>
  Classical.byCases (p := (σ (59 + n1 % 60) 2) = (nI 8)) (fun c23 => J_tabIn (tgt := 220) c23 d_S_doStatement_19 (by decide) (by decide) rfl (by decide) <|
  J_aload_n (i := 0) rfl rfl d_S_doStatement_220 <|
  J_iload_n (i := 3) rfl rfl d_S_doStatement_221 <|
  J_aload_n (i := 0) rfl rfl d_S_doStatement_222 <|
  gS_9 rfl d_S_doStatement_223 <|
  J_iload (i := 4) rfl d_S_doStatement_226 <|
  J_iald (((((((((((((((h) v1 ev1)) v2 ev2)).2).2).2).2).2).2).2).2).1 c23)).1 d_S_doStatement_228 <|
  J_bipush (v := (nI 8)) d_S_doStatement_229 (by decide) <|
  kS_106_v rfl rfl rfl (args := [.inl v1, .inl (σ 13 v2.toNatClampNeg), .inl (nI 8)]) ((((((((((((((((h) v1 ev1)) v2 ev2)).2).2).2).2).2).2).2).2).1 c23)).2) d_S_doStatement_231 (fun s19 h20 =>
  J_goto (tgt := 256) d_S_doStatement_234 (by decide) <|
  J_vret rfl d_S_doStatement_256 (h20))) <| fun c23_8 =>
  J_tabOut (x := (σ (59 + n1 % 60) 2)) (tgt := 237) (by have q0 := lv_neT (a := 0) c23_0 (by decide); have q1 := lv_neT (a := 1) c23_1 (by decide); have q2 := lv_neT (a := 2) c23_2 (by decide); have q3 := lv_neT (a := 3) c23_3 (by decide); have q4 := lv_neT (a := 4) c23_4 (by decide); have q5 := lv_neT (a := 5) c23_5 (by decide); have q6 := lv_neT (a := 6) c23_6 (by decide); have q7 := lv_neT (a := 7) c23_7 (by decide); have q8 := lv_neT (a := 8) c23_8 (by decide); omega) d_S_doStatement_19 (by decide) <|
  J_aload_n (i := 0) rfl rfl d_S_doStatement_237 <|
  J_aload_n (i := 0) rfl rfl d_S_doStatement_238 <|
  gS_9 rfl d_S_doStatement_239 <|
  J_iload_n (i := 3) rfl rfl d_S_doStatement_242 <|
  J_iald ((((((((((((((((h) v1 ev1)) v2 ev2)).2).2).2).2).2).2).2).2).2) c23_0 c23_1 c23_2 c23_3 c23_4 c23_5 c23_6 c23_7 c23_8)).1 d_S_doStatement_243 <|
  J_bipush (v := (nI 8)) d_S_doStatement_244 (by decide) <|
  J_aload_n (i := 0) rfl rfl d_S_doStatement_246 <|
  gS_9 rfl d_S_doStatement_247 <|
  J_iload (i := 4) rfl d_S_doStatement_250 <|
  J_iald (((((((((((((((((h) v1 ev1)) v2 ev2)).2).2).2).2).2).2).2).2).2) c23_0 c23_1 c23_2 c23_3 c23_4 c23_5 c23_6 c23_7 c23_8)).2).1 d_S_doStatement_252 <|
  kS_110_v rfl rfl rfl (args := [.inl (σ 13 v1.toNatClampNeg), .inl (nI 8), .inl (σ 13 v2.toNatClampNeg)]) ((((((((((((((((((h) v1 ev1)) v2 ev2)).2).2).2).2).2).2).2).2).2) c23_0 c23_1 c23_2 c23_3 c23_4 c23_5 c23_6 c23_7 c23_8)).2).2) d_S_doStatement_253 (fun s21 h22 =>
  J_vret rfl d_S_doStatement_256 (h22))))
theorem r_S_addFromSlot_0 {Q : Option mV → mS → Prop} {σ : mS} {x1 x2 x3 : Int32} (h : MU M_P_sitesWith [.inr (1, 0), .inl x3] σ (fun r s1 => ∃ r3, r = some (.inl r3) ∧ (J M_S_addFromSlot Q 15 [some (.inr (2, 0)), some (.inl x1), some (.inl x2), some (.inl x3), some (.inl (x2 &&& r3)), some (.inl (0 : Int32))] [] s1))) : J M_S_addFromSlot Q 0 [some (.inr (2, 0)), some (.inl x1), some (.inl x2), some (.inl x3), none, none] [] σ :=
  J_iload_n (i := 2) rfl rfl d_S_addFromSlot_0 <|
  J_aload_n (i := 0) rfl rfl d_S_addFromSlot_1 <|
  gS_21 rfl d_S_addFromSlot_2 <|
  J_iload_n (i := 3) rfl rfl d_S_addFromSlot_5 <|
  kS_119_i rfl rfl rfl (args := [.inl x3]) (h) d_S_addFromSlot_6 (fun r3 s1 h2 =>
  J_iand d_S_addFromSlot_9 <|
  J_istore (i := 4) (ls' := [some (.inr (2, 0)), some (.inl x1), some (.inl x2), some (.inl x3), some (.inl (x2 &&& r3)), none]) rfl rfl rfl d_S_addFromSlot_10 <|
  J_iconst (v := (0 : Int32)) d_S_addFromSlot_12 (by decide) <|
  J_istore (i := 5) (ls' := [some (.inr (2, 0)), some (.inl x1), some (.inl x2), some (.inl x3), some (.inl (x2 &&& r3)), some (.inl (0 : Int32))]) rfl rfl rfl d_S_addFromSlot_13 <|
  h2)
theorem r_S_addFromSlot_15 {Q : Option mV → mS → Prop} {σ : mS} {x1 x3 x4 x5 : Int32} {u2 : Option mV} (h : ((nI 20) ≤ x5 → (Q none σ)) ∧ (¬ (nI 20) ≤ x5 → (((m_ushr x4 x5) = (0 : Int32) → (Q none σ)) ∧ (¬ (m_ushr x4 x5) = (0 : Int32) → (MU M_O_hasBit [.inl x4, .inl x5] σ (fun r s5 => ∃ r7, r = some (.inl r7) ∧ ((r7 = (0 : Int32) → (J M_S_addFromSlot Q 15 [some (.inr (2, 0)), some (.inl x1), u2, some (.inl x3), some (.inl x4), some (.inl (x5 + 1))] [] s5)) ∧ (¬ r7 = (0 : Int32) → (MU M_O_slotPlace [.inl x5, .inl x3] s5 (fun r s8 => ∃ r10, r = some (.inl r10) ∧ (vp_in r10 1454 ∧ (MU M_S_add [.inr (2, 0), .inl x1, .inl (s8 13 r10.toNatClampNeg)] s8 (fun r s11 => r = none ∧ (J M_S_addFromSlot Q 15 [some (.inr (2, 0)), some (.inl x1), u2, some (.inl x3), some (.inl x4), some (.inl (x5 + 1))] [] s11)))))))))))))) : J M_S_addFromSlot Q 15 [some (.inr (2, 0)), some (.inl x1), u2, some (.inl x3), some (.inl x4), some (.inl x5)] [] σ :=
  J_iload (i := 5) rfl d_S_addFromSlot_15 <|
  J_bipush (v := (nI 20)) d_S_addFromSlot_17 (by decide) <|
  J_icmp_ge (tgt := 62) d_S_addFromSlot_19 (by decide) (fun c15 =>
  J_vret rfl d_S_addFromSlot_62 (((h).1 c15))) (fun c15 =>
  J_iload (i := 4) rfl d_S_addFromSlot_22 <|
  J_iload (i := 5) rfl d_S_addFromSlot_24 <|
  J_iushr d_S_addFromSlot_26 <|
  J_if_eq (tgt := 62) d_S_addFromSlot_27 (by decide) (fun c14 =>
  J_vret rfl d_S_addFromSlot_62 (((((h).2 c15)).1 c14))) (fun c14 =>
  J_iload (i := 4) rfl d_S_addFromSlot_30 <|
  J_iload (i := 5) rfl d_S_addFromSlot_32 <|
  kS_70_i rfl rfl rfl (args := [.inl x4, .inl x5]) (((((h).2 c15)).2 c14)) d_S_addFromSlot_34 (fun r7 s5 h6 =>
  J_if_eq (tgt := 56) d_S_addFromSlot_37 (by decide) (fun c13 =>
  J_iinc (i := 5) (v := (x5 + 1)) (ls' := [some (.inr (2, 0)), some (.inl x1), u2, some (.inl x3), some (.inl x4), some (.inl (x5 + 1))]) rfl rfl rfl rfl rfl d_S_addFromSlot_56 <|
  J_goto (tgt := 15) d_S_addFromSlot_59 (by decide) <|
  ((h6).1 c13)) (fun c13 =>
  J_aload_n (i := 0) rfl rfl d_S_addFromSlot_40 <|
  J_iload_n (i := 1) rfl rfl d_S_addFromSlot_41 <|
  J_aload_n (i := 0) rfl rfl d_S_addFromSlot_42 <|
  gS_9 rfl d_S_addFromSlot_43 <|
  J_iload (i := 5) rfl d_S_addFromSlot_46 <|
  J_iload_n (i := 3) rfl rfl d_S_addFromSlot_48 <|
  kS_123_i rfl rfl rfl (args := [.inl x5, .inl x3]) (((h6).2 c13)) d_S_addFromSlot_49 (fun r10 s8 h9 =>
  J_iald (h9).1 d_S_addFromSlot_52 <|
  kS_99_v rfl rfl rfl (args := [.inl x1, .inl (s8 13 r10.toNatClampNeg)]) ((h9).2) d_S_addFromSlot_53 (fun s11 h12 =>
  J_iinc (i := 5) (v := (x5 + 1)) (ls' := [some (.inr (2, 0)), some (.inl x1), u2, some (.inl x3), some (.inl x4), some (.inl (x5 + 1))]) rfl rfl rfl rfl rfl d_S_addFromSlot_56 <|
  J_goto (tgt := 15) d_S_addFromSlot_59 (by decide) <|
  h12))))))
theorem r_S_addToSlot_0 {Q : Option mV → mS → Prop} {σ : mS} {x1 x2 x3 : Int32} (h : MU M_P_sitesWith [.inr (1, 0), .inl x2] σ (fun r s1 => ∃ r3, r = some (.inl r3) ∧ (J M_S_addToSlot Q 15 [some (.inr (2, 0)), some (.inl x1), some (.inl x2), some (.inl x3), some (.inl (x1 &&& r3)), some (.inl (0 : Int32))] [] s1))) : J M_S_addToSlot Q 0 [some (.inr (2, 0)), some (.inl x1), some (.inl x2), some (.inl x3), none, none] [] σ :=
  J_iload_n (i := 1) rfl rfl d_S_addToSlot_0 <|
  J_aload_n (i := 0) rfl rfl d_S_addToSlot_1 <|
  gS_21 rfl d_S_addToSlot_2 <|
  J_iload_n (i := 2) rfl rfl d_S_addToSlot_5 <|
  kS_119_i rfl rfl rfl (args := [.inl x2]) (h) d_S_addToSlot_6 (fun r3 s1 h2 =>
  J_iand d_S_addToSlot_9 <|
  J_istore (i := 4) (ls' := [some (.inr (2, 0)), some (.inl x1), some (.inl x2), some (.inl x3), some (.inl (x1 &&& r3)), none]) rfl rfl rfl d_S_addToSlot_10 <|
  J_iconst (v := (0 : Int32)) d_S_addToSlot_12 (by decide) <|
  J_istore (i := 5) (ls' := [some (.inr (2, 0)), some (.inl x1), some (.inl x2), some (.inl x3), some (.inl (x1 &&& r3)), some (.inl (0 : Int32))]) rfl rfl rfl d_S_addToSlot_13 <|
  h2)
theorem r_S_addToSlot_15 {Q : Option mV → mS → Prop} {σ : mS} {x2 x3 x4 x5 : Int32} {u1 : Option mV} (h : ((nI 20) ≤ x5 → (Q none σ)) ∧ (¬ (nI 20) ≤ x5 → (((m_ushr x4 x5) = (0 : Int32) → (Q none σ)) ∧ (¬ (m_ushr x4 x5) = (0 : Int32) → (MU M_O_hasBit [.inl x4, .inl x5] σ (fun r s5 => ∃ r7, r = some (.inl r7) ∧ ((r7 = (0 : Int32) → (J M_S_addToSlot Q 15 [some (.inr (2, 0)), u1, some (.inl x2), some (.inl x3), some (.inl x4), some (.inl (x5 + 1))] [] s5)) ∧ (¬ r7 = (0 : Int32) → (MU M_O_slotPlace [.inl x5, .inl x2] s5 (fun r s8 => ∃ r10, r = some (.inl r10) ∧ (MU M_S_add [.inr (2, 0), .inl r10, .inl x3] s8 (fun r s11 => r = none ∧ (J M_S_addToSlot Q 15 [some (.inr (2, 0)), u1, some (.inl x2), some (.inl x3), some (.inl x4), some (.inl (x5 + 1))] [] s11))))))))))))) : J M_S_addToSlot Q 15 [some (.inr (2, 0)), u1, some (.inl x2), some (.inl x3), some (.inl x4), some (.inl x5)] [] σ :=
  J_iload (i := 5) rfl d_S_addToSlot_15 <|
  J_bipush (v := (nI 20)) d_S_addToSlot_17 (by decide) <|
  J_icmp_ge (tgt := 57) d_S_addToSlot_19 (by decide) (fun c15 =>
  J_vret rfl d_S_addToSlot_57 (((h).1 c15))) (fun c15 =>
  J_iload (i := 4) rfl d_S_addToSlot_22 <|
  J_iload (i := 5) rfl d_S_addToSlot_24 <|
  J_iushr d_S_addToSlot_26 <|
  J_if_eq (tgt := 57) d_S_addToSlot_27 (by decide) (fun c14 =>
  J_vret rfl d_S_addToSlot_57 (((((h).2 c15)).1 c14))) (fun c14 =>
  J_iload (i := 4) rfl d_S_addToSlot_30 <|
  J_iload (i := 5) rfl d_S_addToSlot_32 <|
  kS_70_i rfl rfl rfl (args := [.inl x4, .inl x5]) (((((h).2 c15)).2 c14)) d_S_addToSlot_34 (fun r7 s5 h6 =>
  J_if_eq (tgt := 51) d_S_addToSlot_37 (by decide) (fun c13 =>
  J_iinc (i := 5) (v := (x5 + 1)) (ls' := [some (.inr (2, 0)), u1, some (.inl x2), some (.inl x3), some (.inl x4), some (.inl (x5 + 1))]) rfl rfl rfl rfl rfl d_S_addToSlot_51 <|
  J_goto (tgt := 15) d_S_addToSlot_54 (by decide) <|
  ((h6).1 c13)) (fun c13 =>
  J_aload_n (i := 0) rfl rfl d_S_addToSlot_40 <|
  J_iload (i := 5) rfl d_S_addToSlot_41 <|
  J_iload_n (i := 2) rfl rfl d_S_addToSlot_43 <|
  kS_123_i rfl rfl rfl (args := [.inl x5, .inl x2]) (((h6).2 c13)) d_S_addToSlot_44 (fun r10 s8 h9 =>
  J_iload_n (i := 3) rfl rfl d_S_addToSlot_47 <|
  kS_99_v rfl rfl rfl (args := [.inl r10, .inl x3]) (h9) d_S_addToSlot_48 (fun s11 h12 =>
  J_iinc (i := 5) (v := (x5 + 1)) (ls' := [some (.inr (2, 0)), u1, some (.inl x2), some (.inl x3), some (.inl x4), some (.inl (x5 + 1))]) rfl rfl rfl rfl rfl d_S_addToSlot_51 <|
  J_goto (tgt := 15) d_S_addToSlot_54 (by decide) <|
  h12))))))
theorem r_S_doCall_0 {Q : Option mV → mS → Prop} {σ : mS} {x2 : Int32} {n1 : Nat} (h : vp_in (x2 + (σ (59 + n1 % 60) 4)) 1454 ∧ (J M_S_doCall Q 15 [some (.inr (2, 0)), some (.inr (59, n1)), some (.inl x2), some (.inl (σ 13 (x2 + (σ (59 + n1 % 60) 4)).toNatClampNeg)), some (.inl (0 : Int32)), none, none, none] [] σ)) : J M_S_doCall Q 0 [some (.inr (2, 0)), some (.inr (59, n1)), some (.inl x2), none, none, none, none, none] [] σ :=
  J_aload_n (i := 0) rfl rfl d_S_doCall_0 <|
  gS_9 rfl d_S_doCall_1 <|
  J_iload_n (i := 2) rfl rfl d_S_doCall_4 <|
  J_aload_n (i := 1) rfl rfl d_S_doCall_5 <|
  gS_90 rfl d_S_doCall_6 <|
  J_iadd d_S_doCall_9 <|
  J_iald (h).1 d_S_doCall_10 <|
  J_istore_n (i := 3) (ls' := [some (.inr (2, 0)), some (.inr (59, n1)), some (.inl x2), some (.inl (σ 13 (x2 + (σ (59 + n1 % 60) 4)).toNatClampNeg)), none, none, none, none]) rfl rfl rfl rfl d_S_doCall_11 <|
  J_iconst (v := (0 : Int32)) d_S_doCall_12 (by decide) <|
  J_istore (i := 4) (ls' := [some (.inr (2, 0)), some (.inr (59, n1)), some (.inl x2), some (.inl (σ 13 (x2 + (σ (59 + n1 % 60) 4)).toNatClampNeg)), some (.inl (0 : Int32)), none, none, none]) rfl rfl rfl d_S_doCall_13 <|
  (h).2
theorem r_S_doCall_15 {Q : Option mV → mS → Prop} {σ : mS} {x2 x3 x4 : Int32} {n1 : Nat} {u5 u6 u7 : Option mV} (h : ((σ 1 4) ≤ x4 → (Q none σ)) ∧ (¬ (σ 1 4) ≤ x4 → (((m_ushr x3 x4) = (0 : Int32) → (Q none σ)) ∧ (¬ (m_ushr x3 x4) = (0 : Int32) → (MU M_P_methodFound [.inr (1, 0), .inl x4, .inl (σ (59 + n1 % 60) 5)] σ (fun r s2 => ∃ r4, r = some (.inl r4) ∧ (MU M_O_hasBit [.inl x3, .inl x4] s2 (fun r s5 => ∃ r7, r = some (.inl r7) ∧ ((r7 = (0 : Int32) → (J M_S_doCall Q 15 [some (.inr (2, 0)), some (.inr (59, n1)), some (.inl x2), some (.inl x3), some (.inl (x4 + 1)), some (.inl r4), u6, u7] [] s5)) ∧ (¬ r7 = (0 : Int32) → ((r4 = (-1 : Int32) → (J M_S_doCall Q 15 [some (.inr (2, 0)), some (.inr (59, n1)), some (.inl x2), some (.inl x3), some (.inl (x4 + 1)), some (.inl r4), u6, u7] [] s5)) ∧ (¬ r4 = (-1 : Int32) → (MU M_S_contextOf [.inr (2, 0), .inl x4] s5 (fun r s8 => ∃ r10, r = some (.inl r10) ∧ (MU M_O_namesOf [.inl r4, .inl r10] s8 (fun r s11 => ∃ r13, r = some (.inl r13) ∧ (MU M_S_add [.inr (2, 0), .inl ((nI 1444) + r4), .inl ((1 : Int32) <<< (r10 &&& 31))] s11 (fun r s14 => r = none ∧ (MU M_S_add [.inr (2, 0), .inl (r13 + (0 : Int32)), .inl ((1 : Int32) <<< (x4 &&& 31))] s14 (fun r s16 => r = none ∧ (vp_in (x2 + (s16 (59 + n1 % 60) 6)) 1454 ∧ (MU M_S_add [.inr (2, 0), .inl (r13 + (1 : Int32)), .inl (s16 13 (x2 + (s16 (59 + n1 % 60) 6)).toNatClampNeg)] s16 (fun r s18 => r = none ∧ (vp_in (x2 + (s18 (59 + n1 % 60) 7)) 1454 ∧ (MU M_S_add [.inr (2, 0), .inl (r13 + (nI 2)), .inl (s18 13 (x2 + (s18 (59 + n1 % 60) 7)).toNatClampNeg)] s18 (fun r s20 => r = none ∧ (vp_in (r13 + (nI 5)) 1454 ∧ (MU M_S_add [.inr (2, 0), .inl (x2 + (s20 (59 + n1 % 60) 3)), .inl (s20 13 (r13 + (nI 5)).toNatClampNeg)] s20 (fun r s22 => r = none ∧ (J M_S_doCall Q 15 [some (.inr (2, 0)), some (.inr (59, n1)), some (.inl x2), some (.inl x3), some (.inl (x4 + 1)), some (.inl r4), some (.inl r10), some (.inl r13)] [] s22)))))))))))))))))))))))))))))) : J M_S_doCall Q 15 [some (.inr (2, 0)), some (.inr (59, n1)), some (.inl x2), some (.inl x3), some (.inl x4), u5, u6, u7] [] σ :=
  J_iload (i := 4) rfl d_S_doCall_15 <|
  J_aload_n (i := 0) rfl rfl d_S_doCall_17 <|
  gS_21 rfl d_S_doCall_18 <|
  gS_29 rfl d_S_doCall_21 <|
  J_icmp_ge (tgt := 170) d_S_doCall_24 (by decide) (fun c27 =>
  J_vret rfl d_S_doCall_170 (((h).1 c27))) (fun c27 =>
  J_iload_n (i := 3) rfl rfl d_S_doCall_27 <|
  J_iload (i := 4) rfl d_S_doCall_28 <|
  J_iushr d_S_doCall_30 <|
  J_if_eq (tgt := 170) d_S_doCall_31 (by decide) (fun c26 =>
  J_vret rfl d_S_doCall_170 (((((h).2 c27)).1 c26))) (fun c26 =>
  J_aload_n (i := 0) rfl rfl d_S_doCall_34 <|
  gS_21 rfl d_S_doCall_35 <|
  J_iload (i := 4) rfl d_S_doCall_38 <|
  J_aload_n (i := 1) rfl rfl d_S_doCall_40 <|
  gS_103 rfl d_S_doCall_41 <|
  kS_126_i rfl rfl rfl (args := [.inl x4, .inl (σ (59 + n1 % 60) 5)]) (((((h).2 c27)).2 c26)) d_S_doCall_44 (fun r4 s2 h3 =>
  J_istore (i := 5) (ls' := [some (.inr (2, 0)), some (.inr (59, n1)), some (.inl x2), some (.inl x3), some (.inl x4), some (.inl r4), u6, u7]) rfl rfl rfl d_S_doCall_47 <|
  J_iload_n (i := 3) rfl rfl d_S_doCall_49 <|
  J_iload (i := 4) rfl d_S_doCall_50 <|
  kS_70_i rfl rfl rfl (args := [.inl x3, .inl x4]) (h3) d_S_doCall_52 (fun r7 s5 h6 =>
  J_if_eq (tgt := 164) d_S_doCall_55 (by decide) (fun c25 =>
  J_iinc (i := 4) (v := (x4 + 1)) (ls' := [some (.inr (2, 0)), some (.inr (59, n1)), some (.inl x2), some (.inl x3), some (.inl (x4 + 1)), some (.inl r4), u6, u7]) rfl rfl rfl rfl rfl d_S_doCall_164 <|
  J_goto (tgt := 15) d_S_doCall_167 (by decide) <|
  ((h6).1 c25)) (fun c25 =>
  J_iload (i := 5) rfl d_S_doCall_58 <|
  J_iconst (v := (-1 : Int32)) d_S_doCall_60 (by decide) <|
  J_icmp_eq (tgt := 164) d_S_doCall_61 (by decide) (fun c24 =>
  J_iinc (i := 4) (v := (x4 + 1)) (ls' := [some (.inr (2, 0)), some (.inr (59, n1)), some (.inl x2), some (.inl x3), some (.inl (x4 + 1)), some (.inl r4), u6, u7]) rfl rfl rfl rfl rfl d_S_doCall_164 <|
  J_goto (tgt := 15) d_S_doCall_167 (by decide) <|
  ((((h6).2 c25)).1 c24)) (fun c24 =>
  J_aload_n (i := 0) rfl rfl d_S_doCall_64 <|
  J_iload (i := 4) rfl d_S_doCall_65 <|
  kS_129_i rfl rfl rfl (args := [.inl x4]) (((((h6).2 c25)).2 c24)) d_S_doCall_67 (fun r10 s8 h9 =>
  J_istore (i := 6) (ls' := [some (.inr (2, 0)), some (.inr (59, n1)), some (.inl x2), some (.inl x3), some (.inl x4), some (.inl r4), some (.inl r10), u7]) rfl rfl rfl d_S_doCall_70 <|
  J_iload (i := 5) rfl d_S_doCall_72 <|
  J_iload (i := 6) rfl d_S_doCall_74 <|
  kS_35_i rfl rfl rfl (args := [.inl r4, .inl r10]) (h9) d_S_doCall_76 (fun r13 s11 h12 =>
  J_istore (i := 7) (ls' := [some (.inr (2, 0)), some (.inr (59, n1)), some (.inl x2), some (.inl x3), some (.inl x4), some (.inl r4), some (.inl r10), some (.inl r13)]) rfl rfl rfl d_S_doCall_79 <|
  J_aload_n (i := 0) rfl rfl d_S_doCall_81 <|
  J_sipush (v := (nI 1444)) d_S_doCall_82 (by decide) <|
  J_iload (i := 5) rfl d_S_doCall_85 <|
  J_iadd d_S_doCall_87 <|
  J_iconst (v := (1 : Int32)) d_S_doCall_88 (by decide) <|
  J_iload (i := 6) rfl d_S_doCall_89 <|
  J_ishl d_S_doCall_91 <|
  kS_99_v rfl rfl rfl (args := [.inl ((nI 1444) + r4), .inl ((1 : Int32) <<< (r10 &&& 31))]) (h12) d_S_doCall_92 (fun s14 h15 =>
  J_aload_n (i := 0) rfl rfl d_S_doCall_95 <|
  J_iload (i := 7) rfl d_S_doCall_96 <|
  J_iconst (v := (0 : Int32)) d_S_doCall_98 (by decide) <|
  J_iadd d_S_doCall_99 <|
  J_iconst (v := (1 : Int32)) d_S_doCall_100 (by decide) <|
  J_iload (i := 4) rfl d_S_doCall_101 <|
  J_ishl d_S_doCall_103 <|
  kS_99_v rfl rfl rfl (args := [.inl (r13 + (0 : Int32)), .inl ((1 : Int32) <<< (x4 &&& 31))]) (h15) d_S_doCall_104 (fun s16 h17 =>
  J_aload_n (i := 0) rfl rfl d_S_doCall_107 <|
  J_iload (i := 7) rfl d_S_doCall_108 <|
  J_iconst (v := (1 : Int32)) d_S_doCall_110 (by decide) <|
  J_iadd d_S_doCall_111 <|
  J_aload_n (i := 0) rfl rfl d_S_doCall_112 <|
  gS_9 rfl d_S_doCall_113 <|
  J_iload_n (i := 2) rfl rfl d_S_doCall_116 <|
  J_aload_n (i := 1) rfl rfl d_S_doCall_117 <|
  gS_132 rfl d_S_doCall_118 <|
  J_iadd d_S_doCall_121 <|
  J_iald (h17).1 d_S_doCall_122 <|
  kS_99_v rfl rfl rfl (args := [.inl (r13 + (1 : Int32)), .inl (s16 13 (x2 + (s16 (59 + n1 % 60) 6)).toNatClampNeg)]) ((h17).2) d_S_doCall_123 (fun s18 h19 =>
  J_aload_n (i := 0) rfl rfl d_S_doCall_126 <|
  J_iload (i := 7) rfl d_S_doCall_127 <|
  J_iconst (v := (nI 2)) d_S_doCall_129 (by decide) <|
  J_iadd d_S_doCall_130 <|
  J_aload_n (i := 0) rfl rfl d_S_doCall_131 <|
  gS_9 rfl d_S_doCall_132 <|
  J_iload_n (i := 2) rfl rfl d_S_doCall_135 <|
  J_aload_n (i := 1) rfl rfl d_S_doCall_136 <|
  gS_135 rfl d_S_doCall_137 <|
  J_iadd d_S_doCall_140 <|
  J_iald (h19).1 d_S_doCall_141 <|
  kS_99_v rfl rfl rfl (args := [.inl (r13 + (nI 2)), .inl (s18 13 (x2 + (s18 (59 + n1 % 60) 7)).toNatClampNeg)]) ((h19).2) d_S_doCall_142 (fun s20 h21 =>
  J_aload_n (i := 0) rfl rfl d_S_doCall_145 <|
  J_iload_n (i := 2) rfl rfl d_S_doCall_146 <|
  J_aload_n (i := 1) rfl rfl d_S_doCall_147 <|
  gS_85 rfl d_S_doCall_148 <|
  J_iadd d_S_doCall_151 <|
  J_aload_n (i := 0) rfl rfl d_S_doCall_152 <|
  gS_9 rfl d_S_doCall_153 <|
  J_iload (i := 7) rfl d_S_doCall_156 <|
  J_iconst (v := (nI 5)) d_S_doCall_158 (by decide) <|
  J_iadd d_S_doCall_159 <|
  J_iald (h21).1 d_S_doCall_160 <|
  kS_99_v rfl rfl rfl (args := [.inl (x2 + (s20 (59 + n1 % 60) 3)), .inl (s20 13 (r13 + (nI 5)).toNatClampNeg)]) ((h21).2) d_S_doCall_161 (fun s22 h23 =>
  J_iinc (i := 4) (v := (x4 + 1)) (ls' := [some (.inr (2, 0)), some (.inr (59, n1)), some (.inl x2), some (.inl x3), some (.inl (x4 + 1)), some (.inl r4), some (.inl r10), some (.inl r13)]) rfl rfl rfl rfl rfl d_S_doCall_164 <|
  J_goto (tgt := 15) d_S_doCall_167 (by decide) <|
  h23)))))))))))))
theorem r_S_add_0 {Q : Option mV → mS → Prop} {σ : mS} {x1 x2 : Int32} (h : vp_in x1 1454 ∧ (∀ v1, v1 = (x2 &&& ((σ 14 x1.toNatClampNeg) ^^^ (-1 : Int32))) → ((¬ v1 = (0 : Int32) → (vp_in x1 1454 ∧ (vp_in x1 1454 ∧ (∀ t3, t3 = (m_up (m_up σ 14 x1.toNatClampNeg ((σ 14 x1.toNatClampNeg) ||| v1)) 2 5 (1 : Int32)) → (((nI 1260) ≤ x1 → (Q none t3)) ∧ (¬ (nI 1260) ≤ x1 → (MU M_S_noteRound [.inr (2, 0), .inl x1, .inl v1] t3 (fun r s4 => r = none ∧ (Q none s4))))))))) ∧ (v1 = (0 : Int32) → (Q none σ))))) : J M_S_add Q 0 [some (.inr (2, 0)), some (.inl x1), some (.inl x2), none] [] σ :=
  J_iload_n (i := 2) rfl rfl d_S_add_0 <|
  J_aload_n (i := 0) rfl rfl d_S_add_1 <|
  gS_15 rfl d_S_add_2 <|
  J_iload_n (i := 1) rfl rfl d_S_add_5 <|
  J_iald (h).1 d_S_add_6 <|
  J_iconst (v := (-1 : Int32)) d_S_add_7 (by decide) <|
  J_ixor d_S_add_8 <|
  J_iand d_S_add_9 <|
  J_namei (fun v1 ev1 =>
  J_istore_n (i := 3) (ls' := [some (.inr (2, 0)), some (.inl x1), some (.inl x2), some (.inl v1)]) rfl rfl rfl rfl d_S_add_10 <|
  J_iload_n (i := 3) rfl rfl d_S_add_11 <|
  J_if_ne (tgt := 16) d_S_add_12 (by decide) (fun c7 =>
  J_aload_n (i := 0) rfl rfl d_S_add_16 <|
  gS_15 rfl d_S_add_17 <|
  J_iload_n (i := 1) rfl rfl d_S_add_20 <|
  J_dup2 d_S_add_21 <|
  J_iald ((((((h).2) v1 ev1)).1 c7)).1 d_S_add_22 <|
  J_iload_n (i := 3) rfl rfl d_S_add_23 <|
  J_ior d_S_add_24 <|
  J_iast (((((((h).2) v1 ev1)).1 c7)).2).1 d_S_add_25 <|
  J_aload_n (i := 0) rfl rfl d_S_add_26 <|
  J_iconst (v := (1 : Int32)) d_S_add_27 (by decide) <|
  pS_60 rfl (Or.inr rfl) d_S_add_28 <|
  J_names (fun t3 et3 =>
  J_iload_n (i := 1) rfl rfl d_S_add_31 <|
  J_sipush (v := (nI 1260)) d_S_add_32 (by decide) <|
  J_icmp_ge (tgt := 44) d_S_add_35 (by decide) (fun c6 =>
  J_vret rfl d_S_add_44 ((((((((((((h).2) v1 ev1)).1 c7)).2).2) t3 et3)).1 c6))) (fun c6 =>
  J_aload_n (i := 0) rfl rfl d_S_add_38 <|
  J_iload_n (i := 1) rfl rfl d_S_add_39 <|
  J_iload_n (i := 3) rfl rfl d_S_add_40 <|
  kS_138_v rfl rfl rfl (args := [.inl x1, .inl v1]) ((((((((((((h).2) v1 ev1)).1 c7)).2).2) t3 et3)).2 c6)) d_S_add_41 (fun s4 h5 =>
  J_vret rfl d_S_add_44 (h5))))) (fun c7 =>
  J_vret rfl d_S_add_15 ((((((h).2) v1 ev1)).2 c7))))
theorem r_S_noteRound_0 {Q : Option mV → mS → Prop} {σ : mS} {x1 x2 : Int32} (h : ∀ v1, v1 = (x1 / (nI 126)) → (J M_S_noteRound Q 22 [some (.inr (2, 0)), some (.inl x1), some (.inl x2), some (.inl v1), some (.inl (((v1 * (nI 6)) + (m_rem x1 (nI 6))) * (nI 20))), some (.inl (0 : Int32))] [] σ)) : J M_S_noteRound Q 0 [some (.inr (2, 0)), some (.inl x1), some (.inl x2), none, none, none] [] σ :=
  J_iload_n (i := 1) rfl rfl d_S_noteRound_0 <|
  J_bipush (v := (nI 126)) d_S_noteRound_1 (by decide) <|
  J_idiv d_S_noteRound_3 (by decide) <|
  J_namei (fun v1 ev1 =>
  J_istore_n (i := 3) (ls' := [some (.inr (2, 0)), some (.inl x1), some (.inl x2), some (.inl v1), none, none]) rfl rfl rfl rfl d_S_noteRound_4 <|
  J_iload_n (i := 3) rfl rfl d_S_noteRound_5 <|
  J_bipush (v := (nI 6)) d_S_noteRound_6 (by decide) <|
  J_imul d_S_noteRound_8 <|
  J_iload_n (i := 1) rfl rfl d_S_noteRound_9 <|
  J_bipush (v := (nI 6)) d_S_noteRound_10 (by decide) <|
  J_irem d_S_noteRound_12 (by decide) <|
  J_iadd d_S_noteRound_13 <|
  J_bipush (v := (nI 20)) d_S_noteRound_14 (by decide) <|
  J_imul d_S_noteRound_16 <|
  J_istore (i := 4) (ls' := [some (.inr (2, 0)), some (.inl x1), some (.inl x2), some (.inl v1), some (.inl (((v1 * (nI 6)) + (m_rem x1 (nI 6))) * (nI 20))), none]) rfl rfl rfl d_S_noteRound_17 <|
  J_iconst (v := (0 : Int32)) d_S_noteRound_19 (by decide) <|
  J_istore (i := 5) (ls' := [some (.inr (2, 0)), some (.inl x1), some (.inl x2), some (.inl v1), some (.inl (((v1 * (nI 6)) + (m_rem x1 (nI 6))) * (nI 20))), some (.inl (0 : Int32))]) rfl rfl rfl d_S_noteRound_20 <|
  ((h) v1 ev1))
theorem r_S_noteRound_22 {Q : Option mV → mS → Prop} {σ : mS} {x2 x4 x5 : Int32} {u1 u3 : Option mV} (h : ((nI 20) ≤ x5 → (Q none σ)) ∧ (¬ (nI 20) ≤ x5 → ((((m_ushr x2 x5) &&& (1 : Int32)) = (0 : Int32) → (J M_S_noteRound Q 22 [some (.inr (2, 0)), u1, some (.inl x2), u3, some (.inl x4), some (.inl (x5 + 1))] [] σ)) ∧ (¬ ((m_ushr x2 x5) &&& (1 : Int32)) = (0 : Int32) → (vp_in (x4 + x5) 1200 ∧ ((¬ (σ 15 (x4 + x5).toNatClampNeg) = (0 : Int32) → (J M_S_noteRound Q 22 [some (.inr (2, 0)), u1, some (.inl x2), u3, some (.inl x4), some (.inl (x5 + 1))] [] σ)) ∧ ((σ 15 (x4 + x5).toNatClampNeg) = (0 : Int32) → (vp_in (x4 + x5) 1200 ∧ (J M_S_noteRound Q 22 [some (.inr (2, 0)), u1, some (.inl x2), u3, some (.inl x4), some (.inl (x5 + 1))] [] (m_up σ 15 (x4 + x5).toNatClampNeg (σ 2 4))))))))))) : J M_S_noteRound Q 22 [some (.inr (2, 0)), u1, some (.inl x2), u3, some (.inl x4), some (.inl x5)] [] σ :=
  J_iload (i := 5) rfl d_S_noteRound_22 <|
  J_bipush (v := (nI 20)) d_S_noteRound_24 (by decide) <|
  J_icmp_ge (tgt := 71) d_S_noteRound_26 (by decide) (fun c6 =>
  J_vret rfl d_S_noteRound_71 (((h).1 c6))) (fun c6 =>
  J_iload_n (i := 2) rfl rfl d_S_noteRound_29 <|
  J_iload (i := 5) rfl d_S_noteRound_30 <|
  J_iushr d_S_noteRound_32 <|
  J_iconst (v := (1 : Int32)) d_S_noteRound_33 (by decide) <|
  J_iand d_S_noteRound_34 <|
  J_if_eq (tgt := 65) d_S_noteRound_35 (by decide) (fun c5 =>
  J_iinc (i := 5) (v := (x5 + 1)) (ls' := [some (.inr (2, 0)), u1, some (.inl x2), u3, some (.inl x4), some (.inl (x5 + 1))]) rfl rfl rfl rfl rfl d_S_noteRound_65 <|
  J_goto (tgt := 22) d_S_noteRound_68 (by decide) <|
  ((((h).2 c6)).1 c5)) (fun c5 =>
  J_aload_n (i := 0) rfl rfl d_S_noteRound_38 <|
  gS_18 rfl d_S_noteRound_39 <|
  J_iload (i := 4) rfl d_S_noteRound_42 <|
  J_iload (i := 5) rfl d_S_noteRound_44 <|
  J_iadd d_S_noteRound_46 <|
  J_iald (((((h).2 c6)).2 c5)).1 d_S_noteRound_47 <|
  J_if_ne (tgt := 65) d_S_noteRound_48 (by decide) (fun c4 =>
  J_iinc (i := 5) (v := (x5 + 1)) (ls' := [some (.inr (2, 0)), u1, some (.inl x2), u3, some (.inl x4), some (.inl (x5 + 1))]) rfl rfl rfl rfl rfl d_S_noteRound_65 <|
  J_goto (tgt := 22) d_S_noteRound_68 (by decide) <|
  (((((((h).2 c6)).2 c5)).2).1 c4)) (fun c4 =>
  J_aload_n (i := 0) rfl rfl d_S_noteRound_51 <|
  gS_18 rfl d_S_noteRound_52 <|
  J_iload (i := 4) rfl d_S_noteRound_55 <|
  J_iload (i := 5) rfl d_S_noteRound_57 <|
  J_iadd d_S_noteRound_59 <|
  J_aload_n (i := 0) rfl rfl d_S_noteRound_60 <|
  gS_51 rfl d_S_noteRound_61 <|
  J_iast ((((((((h).2 c6)).2 c5)).2).2 c4)).1 d_S_noteRound_64 <|
  J_iinc (i := 5) (v := (x5 + 1)) (ls' := [some (.inr (2, 0)), u1, some (.inl x2), u3, some (.inl x4), some (.inl (x5 + 1))]) rfl rfl rfl rfl rfl d_S_noteRound_65 <|
  J_goto (tgt := 22) d_S_noteRound_68 (by decide) <|
  ((((((((h).2 c6)).2 c5)).2).2 c4)).2)))
