theorem d_G_tell_0 : decode prog_4_method_2_code 0 = .ok (.aload_n 0, 1) := by decide +kernel
theorem d_G_tell_1 : decode prog_4_method_2_code 1 = .ok (.iload_n 1, 1) := by decide +kernel
theorem d_G_tell_2 : decode prog_4_method_2_code 2 = .ok (.putfield 7, 3) := by decide +kernel
theorem d_G_tell_5 : decode prog_4_method_2_code 5 = .ok (.aload_n 0, 1) := by decide +kernel
theorem d_G_tell_6 : decode prog_4_method_2_code 6 = .ok (.iload_n 2, 1) := by decide +kernel
theorem d_G_tell_7 : decode prog_4_method_2_code 7 = .ok (.putfield 13, 3) := by decide +kernel
theorem d_G_tell_10 : decode prog_4_method_2_code 10 = .ok (.aload_n 0, 1) := by decide +kernel
theorem d_G_tell_11 : decode prog_4_method_2_code 11 = .ok (.iload_n 3, 1) := by decide +kernel
theorem d_G_tell_12 : decode prog_4_method_2_code 12 = .ok (.putfield 16, 3) := by decide +kernel
theorem d_G_tell_15 : decode prog_4_method_2_code 15 = .ok (.aload_n 0, 1) := by decide +kernel
theorem d_G_tell_16 : decode prog_4_method_2_code 16 = .ok (.iload 4, 2) := by decide +kernel
theorem d_G_tell_18 : decode prog_4_method_2_code 18 = .ok (.putfield 19, 3) := by decide +kernel
theorem d_G_tell_21 : decode prog_4_method_2_code 21 = .ok (.aload_n 0, 1) := by decide +kernel
theorem d_G_tell_22 : decode prog_4_method_2_code 22 = .ok (.iload 5, 2) := by decide +kernel
theorem d_G_tell_24 : decode prog_4_method_2_code 24 = .ok (.putfield 22, 3) := by decide +kernel
theorem d_G_tell_27 : decode prog_4_method_2_code 27 = .ok (.aload_n 0, 1) := by decide +kernel
theorem d_G_tell_28 : decode prog_4_method_2_code 28 = .ok (.iload 6, 2) := by decide +kernel
theorem d_G_tell_30 : decode prog_4_method_2_code 30 = .ok (.putfield 25, 3) := by decide +kernel
theorem d_G_tell_33 : decode prog_4_method_2_code 33 = .ok (.return_, 1) := by decide +kernel
theorem d_T_forget_0 : decode prog_5_method_2_code 0 = .ok (.aload_n 0, 1) := by decide +kernel
theorem d_T_forget_1 : decode prog_5_method_2_code 1 = .ok (.getfield 33, 3) := by decide +kernel
theorem d_T_forget_4 : decode prog_5_method_2_code 4 = .ok (.iconst 0, 1) := by decide +kernel
theorem d_T_forget_5 : decode prog_5_method_2_code 5 = .ok (.invokestatic 44, 3) := by decide +kernel
theorem d_T_forget_8 : decode prog_5_method_2_code 8 = .ok (.aload_n 0, 1) := by decide +kernel
theorem d_T_forget_9 : decode prog_5_method_2_code 9 = .ok (.iconst 0, 1) := by decide +kernel
theorem d_T_forget_10 : decode prog_5_method_2_code 10 = .ok (.putfield 50, 3) := by decide +kernel
theorem d_T_forget_13 : decode prog_5_method_2_code 13 = .ok (.aload_n 0, 1) := by decide +kernel
theorem d_T_forget_14 : decode prog_5_method_2_code 14 = .ok (.iconst 0, 1) := by decide +kernel
theorem d_T_forget_15 : decode prog_5_method_2_code 15 = .ok (.putfield 54, 3) := by decide +kernel
theorem d_T_forget_18 : decode prog_5_method_2_code 18 = .ok (.aload_n 0, 1) := by decide +kernel
theorem d_T_forget_19 : decode prog_5_method_2_code 19 = .ok (.iconst 0, 1) := by decide +kernel
theorem d_T_forget_20 : decode prog_5_method_2_code 20 = .ok (.putfield 57, 3) := by decide +kernel
theorem d_T_forget_23 : decode prog_5_method_2_code 23 = .ok (.return_, 1) := by decide +kernel
theorem d_T_holdsFor_0 : decode prog_5_method_3_code 0 = .ok (.aload_n 0, 1) := by decide +kernel
theorem d_T_holdsFor_1 : decode prog_5_method_3_code 1 = .ok (.invokevirtual 60, 3) := by decide +kernel
theorem d_T_holdsFor_4 : decode prog_5_method_3_code 4 = .ok (.aload_n 0, 1) := by decide +kernel
theorem d_T_holdsFor_5 : decode prog_5_method_3_code 5 = .ok (.getfield 18, 3) := by decide +kernel
theorem d_T_holdsFor_8 : decode prog_5_method_3_code 8 = .ok (.iconst (-1), 1) := by decide +kernel
theorem d_T_holdsFor_9 : decode prog_5_method_3_code 9 = .ok (.invokestatic 44, 3) := by decide +kernel
theorem d_T_holdsFor_12 : decode prog_5_method_3_code 12 = .ok (.aload_n 0, 1) := by decide +kernel
theorem d_T_holdsFor_13 : decode prog_5_method_3_code 13 = .ok (.iconst 0, 1) := by decide +kernel
theorem d_T_holdsFor_14 : decode prog_5_method_3_code 14 = .ok (.iconst 0, 1) := by decide +kernel
theorem d_T_holdsFor_15 : decode prog_5_method_3_code 15 = .ok (.iconst (-1), 1) := by decide +kernel
theorem d_T_holdsFor_16 : decode prog_5_method_3_code 16 = .ok (.invokevirtual 63, 3) := by decide +kernel
theorem d_T_holdsFor_19 : decode prog_5_method_3_code 19 = .ok (.aload_n 0, 1) := by decide +kernel
theorem d_T_holdsFor_20 : decode prog_5_method_3_code 20 = .ok (.iconst 1, 1) := by decide +kernel
theorem d_T_holdsFor_21 : decode prog_5_method_3_code 21 = .ok (.putfield 67, 3) := by decide +kernel
theorem d_T_holdsFor_24 : decode prog_5_method_3_code 24 = .ok (.iload_n 1, 1) := by decide +kernel
theorem d_T_holdsFor_25 : decode prog_5_method_3_code 25 = .ok (.istore_n 3, 1) := by decide +kernel
theorem d_T_holdsFor_26 : decode prog_5_method_3_code 26 = .ok (.iconst 0, 1) := by decide +kernel
theorem d_T_holdsFor_27 : decode prog_5_method_3_code 27 = .ok (.istore 4, 2) := by decide +kernel
theorem d_T_holdsFor_29 : decode prog_5_method_3_code 29 = .ok (.iload 4, 2) := by decide +kernel
theorem d_T_holdsFor_31 : decode prog_5_method_3_code 31 = .ok (.iload_n 2, 1) := by decide +kernel
theorem d_T_holdsFor_32 : decode prog_5_method_3_code 32 = .ok (.if_icmp .ge 28, 3) := by decide +kernel
theorem d_T_holdsFor_35 : decode prog_5_method_3_code 35 = .ok (.iload_n 3, 1) := by decide +kernel
theorem d_T_holdsFor_36 : decode prog_5_method_3_code 36 = .ok (.ldc 71, 2) := by decide +kernel
theorem d_T_holdsFor_38 : decode prog_5_method_3_code 38 = .ok (.imul, 1) := by decide +kernel
theorem d_T_holdsFor_39 : decode prog_5_method_3_code 39 = .ok (.ldc 72, 2) := by decide +kernel
theorem d_T_holdsFor_41 : decode prog_5_method_3_code 41 = .ok (.iadd, 1) := by decide +kernel
theorem d_T_holdsFor_42 : decode prog_5_method_3_code 42 = .ok (.istore_n 3, 1) := by decide +kernel
theorem d_T_holdsFor_43 : decode prog_5_method_3_code 43 = .ok (.aload_n 0, 1) := by decide +kernel
theorem d_T_holdsFor_44 : decode prog_5_method_3_code 44 = .ok (.iload_n 3, 1) := by decide +kernel
theorem d_T_holdsFor_45 : decode prog_5_method_3_code 45 = .ok (.iconst 1, 1) := by decide +kernel
theorem d_T_holdsFor_46 : decode prog_5_method_3_code 46 = .ok (.iushr, 1) := by decide +kernel
theorem d_T_holdsFor_47 : decode prog_5_method_3_code 47 = .ok (.invokevirtual 73, 3) := by decide +kernel
theorem d_T_holdsFor_50 : decode prog_5_method_3_code 50 = .ok (.aload_n 0, 1) := by decide +kernel
theorem d_T_holdsFor_51 : decode prog_5_method_3_code 51 = .ok (.invokevirtual 77, 3) := by decide +kernel
theorem d_T_holdsFor_54 : decode prog_5_method_3_code 54 = .ok (.iinc 4 1, 3) := by decide +kernel
theorem d_T_holdsFor_57 : decode prog_5_method_3_code 57 = .ok (.goto (-28), 3) := by decide +kernel
theorem d_T_holdsFor_60 : decode prog_5_method_3_code 60 = .ok (.aload_n 0, 1) := by decide +kernel
theorem d_T_holdsFor_61 : decode prog_5_method_3_code 61 = .ok (.getfield 67, 3) := by decide +kernel
theorem d_T_holdsFor_64 : decode prog_5_method_3_code 64 = .ok (.ireturn, 1) := by decide +kernel
theorem d_T_pushFrame_0 : decode prog_5_method_4_code 0 = .ok (.aload_n 0, 1) := by decide +kernel
theorem d_T_pushFrame_1 : decode prog_5_method_4_code 1 = .ok (.getfield 54, 3) := by decide +kernel
theorem d_T_pushFrame_4 : decode prog_5_method_4_code 4 = .ok (.bipush 6, 2) := by decide +kernel
theorem d_T_pushFrame_6 : decode prog_5_method_4_code 6 = .ok (.imul, 1) := by decide +kernel
theorem d_T_pushFrame_7 : decode prog_5_method_4_code 7 = .ok (.istore 4, 2) := by decide +kernel
theorem d_T_pushFrame_9 : decode prog_5_method_4_code 9 = .ok (.aload_n 0, 1) := by decide +kernel
theorem d_T_pushFrame_10 : decode prog_5_method_4_code 10 = .ok (.getfield 21, 3) := by decide +kernel
theorem d_T_pushFrame_13 : decode prog_5_method_4_code 13 = .ok (.iload 4, 2) := by decide +kernel
theorem d_T_pushFrame_15 : decode prog_5_method_4_code 15 = .ok (.iload 4, 2) := by decide +kernel
theorem d_T_pushFrame_17 : decode prog_5_method_4_code 17 = .ok (.bipush 6, 2) := by decide +kernel
theorem d_T_pushFrame_19 : decode prog_5_method_4_code 19 = .ok (.iadd, 1) := by decide +kernel
theorem d_T_pushFrame_20 : decode prog_5_method_4_code 20 = .ok (.iconst (-1), 1) := by decide +kernel
theorem d_T_pushFrame_21 : decode prog_5_method_4_code 21 = .ok (.invokestatic 80, 3) := by decide +kernel
theorem d_T_pushFrame_24 : decode prog_5_method_4_code 24 = .ok (.aload_n 0, 1) := by decide +kernel
theorem d_T_pushFrame_25 : decode prog_5_method_4_code 25 = .ok (.getfield 24, 3) := by decide +kernel
theorem d_T_pushFrame_28 : decode prog_5_method_4_code 28 = .ok (.aload_n 0, 1) := by decide +kernel
theorem d_T_pushFrame_29 : decode prog_5_method_4_code 29 = .ok (.getfield 54, 3) := by decide +kernel
theorem d_T_pushFrame_32 : decode prog_5_method_4_code 32 = .ok (.iload_n 1, 1) := by decide +kernel
theorem d_T_pushFrame_33 : decode prog_5_method_4_code 33 = .ok (.iastore, 1) := by decide +kernel
theorem d_T_pushFrame_34 : decode prog_5_method_4_code 34 = .ok (.aload_n 0, 1) := by decide +kernel
theorem d_T_pushFrame_35 : decode prog_5_method_4_code 35 = .ok (.getfield 27, 3) := by decide +kernel
theorem d_T_pushFrame_38 : decode prog_5_method_4_code 38 = .ok (.aload_n 0, 1) := by decide +kernel
theorem d_T_pushFrame_39 : decode prog_5_method_4_code 39 = .ok (.getfield 54, 3) := by decide +kernel
theorem d_T_pushFrame_42 : decode prog_5_method_4_code 42 = .ok (.iload_n 2, 1) := by decide +kernel
theorem d_T_pushFrame_43 : decode prog_5_method_4_code 43 = .ok (.iastore, 1) := by decide +kernel
theorem d_T_pushFrame_44 : decode prog_5_method_4_code 44 = .ok (.aload_n 0, 1) := by decide +kernel
theorem d_T_pushFrame_45 : decode prog_5_method_4_code 45 = .ok (.getfield 30, 3) := by decide +kernel
theorem d_T_pushFrame_48 : decode prog_5_method_4_code 48 = .ok (.aload_n 0, 1) := by decide +kernel
theorem d_T_pushFrame_49 : decode prog_5_method_4_code 49 = .ok (.getfield 54, 3) := by decide +kernel
theorem d_T_pushFrame_52 : decode prog_5_method_4_code 52 = .ok (.iload_n 3, 1) := by decide +kernel
theorem d_T_pushFrame_53 : decode prog_5_method_4_code 53 = .ok (.iastore, 1) := by decide +kernel
theorem d_T_pushFrame_54 : decode prog_5_method_4_code 54 = .ok (.aload_n 0, 1) := by decide +kernel
theorem d_T_pushFrame_55 : decode prog_5_method_4_code 55 = .ok (.dup, 1) := by decide +kernel
theorem d_T_pushFrame_56 : decode prog_5_method_4_code 56 = .ok (.getfield 54, 3) := by decide +kernel
theorem d_T_pushFrame_59 : decode prog_5_method_4_code 59 = .ok (.iconst 1, 1) := by decide +kernel
theorem d_T_pushFrame_60 : decode prog_5_method_4_code 60 = .ok (.iadd, 1) := by decide +kernel
theorem d_T_pushFrame_61 : decode prog_5_method_4_code 61 = .ok (.putfield 54, 3) := by decide +kernel
theorem d_T_pushFrame_64 : decode prog_5_method_4_code 64 = .ok (.return_, 1) := by decide +kernel
theorem d_T_doStep_0 : decode prog_5_method_5_code 0 = .ok (.aload_n 0, 1) := by decide +kernel
theorem d_T_doStep_1 : decode prog_5_method_5_code 1 = .ok (.getfield 54, 3) := by decide +kernel
theorem d_T_doStep_4 : decode prog_5_method_5_code 4 = .ok (.iconst 1, 1) := by decide +kernel
theorem d_T_doStep_5 : decode prog_5_method_5_code 5 = .ok (.isub, 1) := by decide +kernel
theorem d_T_doStep_6 : decode prog_5_method_5_code 6 = .ok (.istore_n 2, 1) := by decide +kernel
theorem d_T_doStep_7 : decode prog_5_method_5_code 7 = .ok (.aload_n 0, 1) := by decide +kernel
theorem d_T_doStep_8 : decode prog_5_method_5_code 8 = .ok (.getfield 24, 3) := by decide +kernel
theorem d_T_doStep_11 : decode prog_5_method_5_code 11 = .ok (.iload_n 2, 1) := by decide +kernel
theorem d_T_doStep_12 : decode prog_5_method_5_code 12 = .ok (.iaload, 1) := by decide +kernel
theorem d_T_doStep_13 : decode prog_5_method_5_code 13 = .ok (.istore_n 3, 1) := by decide +kernel
theorem d_T_doStep_14 : decode prog_5_method_5_code 14 = .ok (.aload_n 0, 1) := by decide +kernel
theorem d_T_doStep_15 : decode prog_5_method_5_code 15 = .ok (.getfield 36, 3) := by decide +kernel
theorem d_T_doStep_18 : decode prog_5_method_5_code 18 = .ok (.getfield 83, 3) := by decide +kernel
theorem d_T_doStep_21 : decode prog_5_method_5_code 21 = .ok (.iload_n 3, 1) := by decide +kernel
theorem d_T_doStep_22 : decode prog_5_method_5_code 22 = .ok (.iaload, 1) := by decide +kernel
theorem d_T_doStep_23 : decode prog_5_method_5_code 23 = .ok (.istore 4, 2) := by decide +kernel
theorem d_T_doStep_25 : decode prog_5_method_5_code 25 = .ok (.iload_n 1, 1) := by decide +kernel
theorem d_T_doStep_26 : decode prog_5_method_5_code 26 = .ok (.iload 4, 2) := by decide +kernel
theorem d_T_doStep_28 : decode prog_5_method_5_code 28 = .ok (.iconst 1, 1) := by decide +kernel
theorem d_T_doStep_29 : decode prog_5_method_5_code 29 = .ok (.iadd, 1) := by decide +kernel
theorem d_T_doStep_30 : decode prog_5_method_5_code 30 = .ok (.irem, 1) := by decide +kernel
theorem d_T_doStep_31 : decode prog_5_method_5_code 31 = .ok (.istore 5, 2) := by decide +kernel
theorem d_T_doStep_33 : decode prog_5_method_5_code 33 = .ok (.iload 5, 2) := by decide +kernel
theorem d_T_doStep_35 : decode prog_5_method_5_code 35 = .ok (.iload 4, 2) := by decide +kernel
theorem d_T_doStep_37 : decode prog_5_method_5_code 37 = .ok (.if_icmp .ge 24, 3) := by decide +kernel
theorem d_T_doStep_40 : decode prog_5_method_5_code 40 = .ok (.aload_n 0, 1) := by decide +kernel
theorem d_T_doStep_41 : decode prog_5_method_5_code 41 = .ok (.aload_n 0, 1) := by decide +kernel
theorem d_T_doStep_42 : decode prog_5_method_5_code 42 = .ok (.getfield 36, 3) := by decide +kernel
theorem d_T_doStep_45 : decode prog_5_method_5_code 45 = .ok (.iload_n 3, 1) := by decide +kernel
theorem d_T_doStep_46 : decode prog_5_method_5_code 46 = .ok (.iload 5, 2) := by decide +kernel
theorem d_T_doStep_48 : decode prog_5_method_5_code 48 = .ok (.invokevirtual 88, 3) := by decide +kernel
theorem d_T_doStep_51 : decode prog_5_method_5_code 51 = .ok (.iload_n 2, 1) := by decide +kernel
theorem d_T_doStep_52 : decode prog_5_method_5_code 52 = .ok (.bipush 6, 2) := by decide +kernel
theorem d_T_doStep_54 : decode prog_5_method_5_code 54 = .ok (.imul, 1) := by decide +kernel
theorem d_T_doStep_55 : decode prog_5_method_5_code 55 = .ok (.invokevirtual 92, 3) := by decide +kernel
theorem d_T_doStep_58 : decode prog_5_method_5_code 58 = .ok (.goto 41, 3) := by decide +kernel
theorem d_T_doStep_61 : decode prog_5_method_5_code 61 = .ok (.iload_n 2, 1) := by decide +kernel
theorem d_T_doStep_62 : decode prog_5_method_5_code 62 = .ok (.ifCond .le 37, 3) := by decide +kernel
theorem d_T_doStep_65 : decode prog_5_method_5_code 65 = .ok (.aload_n 0, 1) := by decide +kernel
theorem d_T_doStep_66 : decode prog_5_method_5_code 66 = .ok (.iload_n 2, 1) := by decide +kernel
theorem d_T_doStep_67 : decode prog_5_method_5_code 67 = .ok (.putfield 54, 3) := by decide +kernel
theorem d_T_doStep_70 : decode prog_5_method_5_code 70 = .ok (.aload_n 0, 1) := by decide +kernel
theorem d_T_doStep_71 : decode prog_5_method_5_code 71 = .ok (.getfield 21, 3) := by decide +kernel
theorem d_T_doStep_74 : decode prog_5_method_5_code 74 = .ok (.iload_n 2, 1) := by decide +kernel
theorem d_T_doStep_75 : decode prog_5_method_5_code 75 = .ok (.iconst 1, 1) := by decide +kernel
theorem d_T_doStep_76 : decode prog_5_method_5_code 76 = .ok (.isub, 1) := by decide +kernel
theorem d_T_doStep_77 : decode prog_5_method_5_code 77 = .ok (.bipush 6, 2) := by decide +kernel
theorem d_T_doStep_79 : decode prog_5_method_5_code 79 = .ok (.imul, 1) := by decide +kernel
theorem d_T_doStep_80 : decode prog_5_method_5_code 80 = .ok (.aload_n 0, 1) := by decide +kernel
theorem d_T_doStep_81 : decode prog_5_method_5_code 81 = .ok (.getfield 30, 3) := by decide +kernel
theorem d_T_doStep_84 : decode prog_5_method_5_code 84 = .ok (.iload_n 2, 1) := by decide +kernel
theorem d_T_doStep_85 : decode prog_5_method_5_code 85 = .ok (.iaload, 1) := by decide +kernel
theorem d_T_doStep_86 : decode prog_5_method_5_code 86 = .ok (.iadd, 1) := by decide +kernel
theorem d_T_doStep_87 : decode prog_5_method_5_code 87 = .ok (.aload_n 0, 1) := by decide +kernel
theorem d_T_doStep_88 : decode prog_5_method_5_code 88 = .ok (.getfield 21, 3) := by decide +kernel
theorem d_T_doStep_91 : decode prog_5_method_5_code 91 = .ok (.iload_n 2, 1) := by decide +kernel
theorem d_T_doStep_92 : decode prog_5_method_5_code 92 = .ok (.bipush 6, 2) := by decide +kernel
theorem d_T_doStep_94 : decode prog_5_method_5_code 94 = .ok (.imul, 1) := by decide +kernel
theorem d_T_doStep_95 : decode prog_5_method_5_code 95 = .ok (.iconst 5, 1) := by decide +kernel
theorem d_T_doStep_96 : decode prog_5_method_5_code 96 = .ok (.iadd, 1) := by decide +kernel
theorem d_T_doStep_97 : decode prog_5_method_5_code 97 = .ok (.iaload, 1) := by decide +kernel
theorem d_T_doStep_98 : decode prog_5_method_5_code 98 = .ok (.iastore, 1) := by decide +kernel
theorem d_T_doStep_99 : decode prog_5_method_5_code 99 = .ok (.return_, 1) := by decide +kernel
theorem d_T_doStatement_0 : decode prog_5_method_6_code 0 = .ok (.aload_n 1, 1) := by decide +kernel
theorem d_T_doStatement_1 : decode prog_5_method_6_code 1 = .ok (.getfield 96, 3) := by decide +kernel
theorem d_T_doStatement_4 : decode prog_5_method_6_code 4 = .ok (.tableswitch 258 0 8 #[52, 61, 86, 114, 147, 156, 179, 223, 232], 52) := by decide +kernel
theorem d_T_doStatement_56 : decode prog_5_method_6_code 56 = .ok (.aload_n 0, 1) := by decide +kernel
theorem d_T_doStatement_57 : decode prog_5_method_6_code 57 = .ok (.aload_n 1, 1) := by decide +kernel
theorem d_T_doStatement_58 : decode prog_5_method_6_code 58 = .ok (.iload_n 2, 1) := by decide +kernel
theorem d_T_doStatement_59 : decode prog_5_method_6_code 59 = .ok (.invokevirtual 101, 3) := by decide +kernel
theorem d_T_doStatement_62 : decode prog_5_method_6_code 62 = .ok (.goto 228, 3) := by decide +kernel
theorem d_T_doStatement_65 : decode prog_5_method_6_code 65 = .ok (.aload_n 0, 1) := by decide +kernel
theorem d_T_doStatement_66 : decode prog_5_method_6_code 66 = .ok (.getfield 21, 3) := by decide +kernel
theorem d_T_doStatement_69 : decode prog_5_method_6_code 69 = .ok (.iload_n 2, 1) := by decide +kernel
theorem d_T_doStatement_70 : decode prog_5_method_6_code 70 = .ok (.aload_n 1, 1) := by decide +kernel
theorem d_T_doStatement_71 : decode prog_5_method_6_code 71 = .ok (.getfield 104, 3) := by decide +kernel
theorem d_T_doStatement_74 : decode prog_5_method_6_code 74 = .ok (.iadd, 1) := by decide +kernel
theorem d_T_doStatement_75 : decode prog_5_method_6_code 75 = .ok (.aload_n 0, 1) := by decide +kernel
theorem d_T_doStatement_76 : decode prog_5_method_6_code 76 = .ok (.getfield 21, 3) := by decide +kernel
theorem d_T_doStatement_79 : decode prog_5_method_6_code 79 = .ok (.iload_n 2, 1) := by decide +kernel
theorem d_T_doStatement_80 : decode prog_5_method_6_code 80 = .ok (.aload_n 1, 1) := by decide +kernel
theorem d_T_doStatement_81 : decode prog_5_method_6_code 81 = .ok (.getfield 107, 3) := by decide +kernel
theorem d_T_doStatement_84 : decode prog_5_method_6_code 84 = .ok (.iadd, 1) := by decide +kernel
theorem d_T_doStatement_85 : decode prog_5_method_6_code 85 = .ok (.iaload, 1) := by decide +kernel
theorem d_T_doStatement_86 : decode prog_5_method_6_code 86 = .ok (.iastore, 1) := by decide +kernel
theorem d_T_doStatement_87 : decode prog_5_method_6_code 87 = .ok (.goto 203, 3) := by decide +kernel
theorem d_T_doStatement_90 : decode prog_5_method_6_code 90 = .ok (.aload_n 0, 1) := by decide +kernel
theorem d_T_doStatement_91 : decode prog_5_method_6_code 91 = .ok (.iload_n 2, 1) := by decide +kernel
theorem d_T_doStatement_92 : decode prog_5_method_6_code 92 = .ok (.aload_n 1, 1) := by decide +kernel
theorem d_T_doStatement_93 : decode prog_5_method_6_code 93 = .ok (.getfield 104, 3) := by decide +kernel
theorem d_T_doStatement_96 : decode prog_5_method_6_code 96 = .ok (.iadd, 1) := by decide +kernel
theorem d_T_doStatement_97 : decode prog_5_method_6_code 97 = .ok (.aload_n 0, 1) := by decide +kernel
theorem d_T_doStatement_98 : decode prog_5_method_6_code 98 = .ok (.getfield 21, 3) := by decide +kernel
theorem d_T_doStatement_101 : decode prog_5_method_6_code 101 = .ok (.iload_n 2, 1) := by decide +kernel
theorem d_T_doStatement_102 : decode prog_5_method_6_code 102 = .ok (.aload_n 1, 1) := by decide +kernel
theorem d_T_doStatement_103 : decode prog_5_method_6_code 103 = .ok (.getfield 107, 3) := by decide +kernel
theorem d_T_doStatement_106 : decode prog_5_method_6_code 106 = .ok (.iadd, 1) := by decide +kernel
theorem d_T_doStatement_107 : decode prog_5_method_6_code 107 = .ok (.iaload, 1) := by decide +kernel
theorem d_T_doStatement_108 : decode prog_5_method_6_code 108 = .ok (.aload_n 1, 1) := by decide +kernel
theorem d_T_doStatement_109 : decode prog_5_method_6_code 109 = .ok (.getfield 110, 3) := by decide +kernel
theorem d_T_doStatement_112 : decode prog_5_method_6_code 112 = .ok (.invokevirtual 113, 3) := by decide +kernel
theorem d_T_doStatement_115 : decode prog_5_method_6_code 115 = .ok (.goto 175, 3) := by decide +kernel
theorem d_T_doStatement_118 : decode prog_5_method_6_code 118 = .ok (.aload_n 0, 1) := by decide +kernel
theorem d_T_doStatement_119 : decode prog_5_method_6_code 119 = .ok (.aload_n 0, 1) := by decide +kernel
theorem d_T_doStatement_120 : decode prog_5_method_6_code 120 = .ok (.getfield 21, 3) := by decide +kernel
theorem d_T_doStatement_123 : decode prog_5_method_6_code 123 = .ok (.iload_n 2, 1) := by decide +kernel
theorem d_T_doStatement_124 : decode prog_5_method_6_code 124 = .ok (.aload_n 1, 1) := by decide +kernel
theorem d_T_doStatement_125 : decode prog_5_method_6_code 125 = .ok (.getfield 104, 3) := by decide +kernel
theorem d_T_doStatement_128 : decode prog_5_method_6_code 128 = .ok (.iadd, 1) := by decide +kernel
theorem d_T_doStatement_129 : decode prog_5_method_6_code 129 = .ok (.iaload, 1) := by decide +kernel
theorem d_T_doStatement_130 : decode prog_5_method_6_code 130 = .ok (.aload_n 1, 1) := by decide +kernel
theorem d_T_doStatement_131 : decode prog_5_method_6_code 131 = .ok (.getfield 110, 3) := by decide +kernel
theorem d_T_doStatement_134 : decode prog_5_method_6_code 134 = .ok (.aload_n 0, 1) := by decide +kernel
theorem d_T_doStatement_135 : decode prog_5_method_6_code 135 = .ok (.getfield 21, 3) := by decide +kernel
theorem d_T_doStatement_138 : decode prog_5_method_6_code 138 = .ok (.iload_n 2, 1) := by decide +kernel
theorem d_T_doStatement_139 : decode prog_5_method_6_code 139 = .ok (.aload_n 1, 1) := by decide +kernel
theorem d_T_doStatement_140 : decode prog_5_method_6_code 140 = .ok (.getfield 107, 3) := by decide +kernel
theorem d_T_doStatement_143 : decode prog_5_method_6_code 143 = .ok (.iadd, 1) := by decide +kernel
theorem d_T_doStatement_144 : decode prog_5_method_6_code 144 = .ok (.iaload, 1) := by decide +kernel
theorem d_T_doStatement_145 : decode prog_5_method_6_code 145 = .ok (.invokevirtual 116, 3) := by decide +kernel
theorem d_T_doStatement_148 : decode prog_5_method_6_code 148 = .ok (.goto 142, 3) := by decide +kernel
theorem d_T_doStatement_151 : decode prog_5_method_6_code 151 = .ok (.aload_n 0, 1) := by decide +kernel
theorem d_T_doStatement_152 : decode prog_5_method_6_code 152 = .ok (.aload_n 1, 1) := by decide +kernel
theorem d_T_doStatement_153 : decode prog_5_method_6_code 153 = .ok (.iload_n 2, 1) := by decide +kernel
theorem d_T_doStatement_154 : decode prog_5_method_6_code 154 = .ok (.invokevirtual 119, 3) := by decide +kernel
theorem d_T_doStatement_157 : decode prog_5_method_6_code 157 = .ok (.goto 133, 3) := by decide +kernel
theorem d_T_doStatement_160 : decode prog_5_method_6_code 160 = .ok (.aload_n 0, 1) := by decide +kernel
theorem d_T_doStatement_161 : decode prog_5_method_6_code 161 = .ok (.getfield 21, 3) := by decide +kernel
theorem d_T_doStatement_164 : decode prog_5_method_6_code 164 = .ok (.iload_n 2, 1) := by decide +kernel
theorem d_T_doStatement_165 : decode prog_5_method_6_code 165 = .ok (.aload_n 1, 1) := by decide +kernel
theorem d_T_doStatement_166 : decode prog_5_method_6_code 166 = .ok (.getfield 104, 3) := by decide +kernel
theorem d_T_doStatement_169 : decode prog_5_method_6_code 169 = .ok (.iadd, 1) := by decide +kernel
theorem d_T_doStatement_170 : decode prog_5_method_6_code 170 = .ok (.aload_n 0, 1) := by decide +kernel
theorem d_T_doStatement_171 : decode prog_5_method_6_code 171 = .ok (.getfield 18, 3) := by decide +kernel
theorem d_T_doStatement_174 : decode prog_5_method_6_code 174 = .ok (.aload_n 1, 1) := by decide +kernel
theorem d_T_doStatement_175 : decode prog_5_method_6_code 175 = .ok (.getfield 107, 3) := by decide +kernel
theorem d_T_doStatement_178 : decode prog_5_method_6_code 178 = .ok (.iaload, 1) := by decide +kernel
theorem d_T_doStatement_179 : decode prog_5_method_6_code 179 = .ok (.iastore, 1) := by decide +kernel
theorem d_T_doStatement_180 : decode prog_5_method_6_code 180 = .ok (.goto 110, 3) := by decide +kernel
theorem d_T_doStatement_183 : decode prog_5_method_6_code 183 = .ok (.aload_n 0, 1) := by decide +kernel
theorem d_T_doStatement_184 : decode prog_5_method_6_code 184 = .ok (.getfield 18, 3) := by decide +kernel
theorem d_T_doStatement_187 : decode prog_5_method_6_code 187 = .ok (.aload_n 1, 1) := by decide +kernel
theorem d_T_doStatement_188 : decode prog_5_method_6_code 188 = .ok (.getfield 104, 3) := by decide +kernel
theorem d_T_doStatement_191 : decode prog_5_method_6_code 191 = .ok (.aload_n 0, 1) := by decide +kernel
theorem d_T_doStatement_192 : decode prog_5_method_6_code 192 = .ok (.getfield 21, 3) := by decide +kernel
theorem d_T_doStatement_195 : decode prog_5_method_6_code 195 = .ok (.iload_n 2, 1) := by decide +kernel
theorem d_T_doStatement_196 : decode prog_5_method_6_code 196 = .ok (.aload_n 1, 1) := by decide +kernel
theorem d_T_doStatement_197 : decode prog_5_method_6_code 197 = .ok (.getfield 107, 3) := by decide +kernel
theorem d_T_doStatement_200 : decode prog_5_method_6_code 200 = .ok (.iadd, 1) := by decide +kernel
theorem d_T_doStatement_201 : decode prog_5_method_6_code 201 = .ok (.iaload, 1) := by decide +kernel
theorem d_T_doStatement_202 : decode prog_5_method_6_code 202 = .ok (.iastore, 1) := by decide +kernel
theorem d_T_doStatement_203 : decode prog_5_method_6_code 203 = .ok (.aload_n 0, 1) := by decide +kernel
theorem d_T_doStatement_204 : decode prog_5_method_6_code 204 = .ok (.aload_n 0, 1) := by decide +kernel
theorem d_T_doStatement_205 : decode prog_5_method_6_code 205 = .ok (.getfield 18, 3) := by decide +kernel
theorem d_T_doStatement_208 : decode prog_5_method_6_code 208 = .ok (.aload_n 1, 1) := by decide +kernel
theorem d_T_doStatement_209 : decode prog_5_method_6_code 209 = .ok (.getfield 104, 3) := by decide +kernel
theorem d_T_doStatement_212 : decode prog_5_method_6_code 212 = .ok (.iaload, 1) := by decide +kernel
theorem d_T_doStatement_213 : decode prog_5_method_6_code 213 = .ok (.sipush 1440, 3) := by decide +kernel
theorem d_T_doStatement_216 : decode prog_5_method_6_code 216 = .ok (.aload_n 1, 1) := by decide +kernel
theorem d_T_doStatement_217 : decode prog_5_method_6_code 217 = .ok (.getfield 104, 3) := by decide +kernel
theorem d_T_doStatement_220 : decode prog_5_method_6_code 220 = .ok (.iadd, 1) := by decide +kernel
theorem d_T_doStatement_221 : decode prog_5_method_6_code 221 = .ok (.invokevirtual 122, 3) := by decide +kernel
theorem d_T_doStatement_224 : decode prog_5_method_6_code 224 = .ok (.goto 66, 3) := by decide +kernel
theorem d_T_doStatement_227 : decode prog_5_method_6_code 227 = .ok (.aload_n 0, 1) := by decide +kernel
theorem d_T_doStatement_228 : decode prog_5_method_6_code 228 = .ok (.aload_n 1, 1) := by decide +kernel
theorem d_T_doStatement_229 : decode prog_5_method_6_code 229 = .ok (.iload_n 2, 1) := by decide +kernel
theorem d_T_doStatement_230 : decode prog_5_method_6_code 230 = .ok (.invokevirtual 126, 3) := by decide +kernel
theorem d_T_doStatement_233 : decode prog_5_method_6_code 233 = .ok (.goto 57, 3) := by decide +kernel
theorem d_T_doStatement_236 : decode prog_5_method_6_code 236 = .ok (.aload_n 0, 1) := by decide +kernel
theorem d_T_doStatement_237 : decode prog_5_method_6_code 237 = .ok (.iload_n 2, 1) := by decide +kernel
theorem d_T_doStatement_238 : decode prog_5_method_6_code 238 = .ok (.aload_n 1, 1) := by decide +kernel
theorem d_T_doStatement_239 : decode prog_5_method_6_code 239 = .ok (.getfield 104, 3) := by decide +kernel
theorem d_T_doStatement_242 : decode prog_5_method_6_code 242 = .ok (.iadd, 1) := by decide +kernel
theorem d_T_doStatement_243 : decode prog_5_method_6_code 243 = .ok (.aload_n 0, 1) := by decide +kernel
theorem d_T_doStatement_244 : decode prog_5_method_6_code 244 = .ok (.getfield 21, 3) := by decide +kernel
theorem d_T_doStatement_247 : decode prog_5_method_6_code 247 = .ok (.iload_n 2, 1) := by decide +kernel
theorem d_T_doStatement_248 : decode prog_5_method_6_code 248 = .ok (.aload_n 1, 1) := by decide +kernel
theorem d_T_doStatement_249 : decode prog_5_method_6_code 249 = .ok (.getfield 107, 3) := by decide +kernel
theorem d_T_doStatement_252 : decode prog_5_method_6_code 252 = .ok (.iadd, 1) := by decide +kernel
theorem d_T_doStatement_253 : decode prog_5_method_6_code 253 = .ok (.iaload, 1) := by decide +kernel
theorem d_T_doStatement_254 : decode prog_5_method_6_code 254 = .ok (.bipush 8, 2) := by decide +kernel
theorem d_T_doStatement_256 : decode prog_5_method_6_code 256 = .ok (.invokevirtual 113, 3) := by decide +kernel
theorem d_T_doStatement_259 : decode prog_5_method_6_code 259 = .ok (.goto 31, 3) := by decide +kernel
theorem d_T_doStatement_262 : decode prog_5_method_6_code 262 = .ok (.aload_n 0, 1) := by decide +kernel
theorem d_T_doStatement_263 : decode prog_5_method_6_code 263 = .ok (.aload_n 0, 1) := by decide +kernel
theorem d_T_doStatement_264 : decode prog_5_method_6_code 264 = .ok (.getfield 21, 3) := by decide +kernel
theorem d_T_doStatement_267 : decode prog_5_method_6_code 267 = .ok (.iload_n 2, 1) := by decide +kernel
theorem d_T_doStatement_268 : decode prog_5_method_6_code 268 = .ok (.aload_n 1, 1) := by decide +kernel
theorem d_T_doStatement_269 : decode prog_5_method_6_code 269 = .ok (.getfield 104, 3) := by decide +kernel
theorem d_T_doStatement_272 : decode prog_5_method_6_code 272 = .ok (.iadd, 1) := by decide +kernel
theorem d_T_doStatement_273 : decode prog_5_method_6_code 273 = .ok (.iaload, 1) := by decide +kernel
theorem d_T_doStatement_274 : decode prog_5_method_6_code 274 = .ok (.bipush 8, 2) := by decide +kernel
theorem d_T_doStatement_276 : decode prog_5_method_6_code 276 = .ok (.aload_n 0, 1) := by decide +kernel
theorem d_T_doStatement_277 : decode prog_5_method_6_code 277 = .ok (.getfield 21, 3) := by decide +kernel
theorem d_T_doStatement_280 : decode prog_5_method_6_code 280 = .ok (.iload_n 2, 1) := by decide +kernel
theorem d_T_doStatement_281 : decode prog_5_method_6_code 281 = .ok (.aload_n 1, 1) := by decide +kernel
theorem d_T_doStatement_282 : decode prog_5_method_6_code 282 = .ok (.getfield 107, 3) := by decide +kernel
theorem d_T_doStatement_285 : decode prog_5_method_6_code 285 = .ok (.iadd, 1) := by decide +kernel
theorem d_T_doStatement_286 : decode prog_5_method_6_code 286 = .ok (.iaload, 1) := by decide +kernel
theorem d_T_doStatement_287 : decode prog_5_method_6_code 287 = .ok (.invokevirtual 116, 3) := by decide +kernel
theorem d_T_doStatement_290 : decode prog_5_method_6_code 290 = .ok (.return_, 1) := by decide +kernel
theorem d_T_makeObject_0 : decode prog_5_method_7_code 0 = .ok (.aload_n 0, 1) := by decide +kernel
theorem d_T_makeObject_1 : decode prog_5_method_7_code 1 = .ok (.getfield 50, 3) := by decide +kernel
theorem d_T_makeObject_4 : decode prog_5_method_7_code 4 = .ok (.bipush 30, 2) := by decide +kernel
theorem d_T_makeObject_6 : decode prog_5_method_7_code 6 = .ok (.if_icmp .lt 4, 3) := by decide +kernel
theorem d_T_makeObject_9 : decode prog_5_method_7_code 9 = .ok (.return_, 1) := by decide +kernel
theorem d_T_makeObject_10 : decode prog_5_method_7_code 10 = .ok (.aload_n 0, 1) := by decide +kernel
theorem d_T_makeObject_11 : decode prog_5_method_7_code 11 = .ok (.getfield 9, 3) := by decide +kernel
theorem d_T_makeObject_14 : decode prog_5_method_7_code 14 = .ok (.aload_n 0, 1) := by decide +kernel
theorem d_T_makeObject_15 : decode prog_5_method_7_code 15 = .ok (.getfield 50, 3) := by decide +kernel
theorem d_T_makeObject_18 : decode prog_5_method_7_code 18 = .ok (.aload_n 1, 1) := by decide +kernel
theorem d_T_makeObject_19 : decode prog_5_method_7_code 19 = .ok (.getfield 129, 3) := by decide +kernel
theorem d_T_makeObject_22 : decode prog_5_method_7_code 22 = .ok (.iastore, 1) := by decide +kernel
theorem d_T_makeObject_23 : decode prog_5_method_7_code 23 = .ok (.aload_n 0, 1) := by decide +kernel
theorem d_T_makeObject_24 : decode prog_5_method_7_code 24 = .ok (.getfield 15, 3) := by decide +kernel
theorem d_T_makeObject_27 : decode prog_5_method_7_code 27 = .ok (.aload_n 0, 1) := by decide +kernel
theorem d_T_makeObject_28 : decode prog_5_method_7_code 28 = .ok (.getfield 50, 3) := by decide +kernel
theorem d_T_makeObject_31 : decode prog_5_method_7_code 31 = .ok (.bipush 9, 2) := by decide +kernel
theorem d_T_makeObject_33 : decode prog_5_method_7_code 33 = .ok (.imul, 1) := by decide +kernel
theorem d_T_makeObject_34 : decode prog_5_method_7_code 34 = .ok (.aload_n 0, 1) := by decide +kernel
theorem d_T_makeObject_35 : decode prog_5_method_7_code 35 = .ok (.getfield 50, 3) := by decide +kernel
theorem d_T_makeObject_38 : decode prog_5_method_7_code 38 = .ok (.bipush 9, 2) := by decide +kernel
theorem d_T_makeObject_40 : decode prog_5_method_7_code 40 = .ok (.imul, 1) := by decide +kernel
theorem d_T_makeObject_41 : decode prog_5_method_7_code 41 = .ok (.bipush 9, 2) := by decide +kernel
theorem d_T_makeObject_43 : decode prog_5_method_7_code 43 = .ok (.iadd, 1) := by decide +kernel
theorem d_T_makeObject_44 : decode prog_5_method_7_code 44 = .ok (.iconst (-1), 1) := by decide +kernel
theorem d_T_makeObject_45 : decode prog_5_method_7_code 45 = .ok (.invokestatic 80, 3) := by decide +kernel
theorem d_T_makeObject_48 : decode prog_5_method_7_code 48 = .ok (.aload_n 0, 1) := by decide +kernel
theorem d_T_makeObject_49 : decode prog_5_method_7_code 49 = .ok (.getfield 21, 3) := by decide +kernel
theorem d_T_makeObject_52 : decode prog_5_method_7_code 52 = .ok (.iload_n 2, 1) := by decide +kernel
theorem d_T_makeObject_53 : decode prog_5_method_7_code 53 = .ok (.aload_n 1, 1) := by decide +kernel
theorem d_T_makeObject_54 : decode prog_5_method_7_code 54 = .ok (.getfield 104, 3) := by decide +kernel
theorem d_T_makeObject_57 : decode prog_5_method_7_code 57 = .ok (.iadd, 1) := by decide +kernel
theorem d_T_makeObject_58 : decode prog_5_method_7_code 58 = .ok (.aload_n 0, 1) := by decide +kernel
theorem d_T_makeObject_59 : decode prog_5_method_7_code 59 = .ok (.getfield 50, 3) := by decide +kernel
theorem d_T_makeObject_62 : decode prog_5_method_7_code 62 = .ok (.iastore, 1) := by decide +kernel
theorem d_T_makeObject_63 : decode prog_5_method_7_code 63 = .ok (.aload_n 0, 1) := by decide +kernel
theorem d_T_makeObject_64 : decode prog_5_method_7_code 64 = .ok (.dup, 1) := by decide +kernel
theorem d_T_makeObject_65 : decode prog_5_method_7_code 65 = .ok (.getfield 50, 3) := by decide +kernel
theorem d_T_makeObject_68 : decode prog_5_method_7_code 68 = .ok (.iconst 1, 1) := by decide +kernel
theorem d_T_makeObject_69 : decode prog_5_method_7_code 69 = .ok (.iadd, 1) := by decide +kernel
theorem d_T_makeObject_70 : decode prog_5_method_7_code 70 = .ok (.putfield 50, 3) := by decide +kernel
theorem d_T_makeObject_73 : decode prog_5_method_7_code 73 = .ok (.return_, 1) := by decide +kernel
theorem d_T_castObject_0 : decode prog_5_method_8_code 0 = .ok (.aload_n 0, 1) := by decide +kernel
theorem d_T_castObject_1 : decode prog_5_method_8_code 1 = .ok (.getfield 21, 3) := by decide +kernel
theorem d_T_castObject_4 : decode prog_5_method_8_code 4 = .ok (.iload_n 2, 1) := by decide +kernel
theorem d_T_castObject_5 : decode prog_5_method_8_code 5 = .ok (.aload_n 1, 1) := by decide +kernel
theorem d_T_castObject_6 : decode prog_5_method_8_code 6 = .ok (.getfield 107, 3) := by decide +kernel
theorem d_T_castObject_9 : decode prog_5_method_8_code 9 = .ok (.iadd, 1) := by decide +kernel
theorem d_T_castObject_10 : decode prog_5_method_8_code 10 = .ok (.iaload, 1) := by decide +kernel
theorem d_T_castObject_11 : decode prog_5_method_8_code 11 = .ok (.istore_n 3, 1) := by decide +kernel
theorem d_T_castObject_12 : decode prog_5_method_8_code 12 = .ok (.iload_n 3, 1) := by decide +kernel
theorem d_T_castObject_13 : decode prog_5_method_8_code 13 = .ok (.iconst (-1), 1) := by decide +kernel
theorem d_T_castObject_14 : decode prog_5_method_8_code 14 = .ok (.if_icmp .eq 27, 3) := by decide +kernel
theorem d_T_castObject_17 : decode prog_5_method_8_code 17 = .ok (.aload_n 0, 1) := by decide +kernel
theorem d_T_castObject_18 : decode prog_5_method_8_code 18 = .ok (.getfield 36, 3) := by decide +kernel
theorem d_T_castObject_21 : decode prog_5_method_8_code 21 = .ok (.getfield 132, 3) := by decide +kernel
theorem d_T_castObject_24 : decode prog_5_method_8_code 24 = .ok (.aload_n 1, 1) := by decide +kernel
theorem d_T_castObject_25 : decode prog_5_method_8_code 25 = .ok (.getfield 110, 3) := by decide +kernel
theorem d_T_castObject_28 : decode prog_5_method_8_code 28 = .ok (.iaload, 1) := by decide +kernel
theorem d_T_castObject_29 : decode prog_5_method_8_code 29 = .ok (.aload_n 0, 1) := by decide +kernel
theorem d_T_castObject_30 : decode prog_5_method_8_code 30 = .ok (.getfield 9, 3) := by decide +kernel
theorem d_T_castObject_33 : decode prog_5_method_8_code 33 = .ok (.iload_n 3, 1) := by decide +kernel
theorem d_T_castObject_34 : decode prog_5_method_8_code 34 = .ok (.iaload, 1) := by decide +kernel
theorem d_T_castObject_35 : decode prog_5_method_8_code 35 = .ok (.invokestatic 135, 3) := by decide +kernel
theorem d_T_castObject_38 : decode prog_5_method_8_code 38 = .ok (.ifCond .eq 15, 3) := by decide +kernel
theorem d_T_castObject_41 : decode prog_5_method_8_code 41 = .ok (.aload_n 0, 1) := by decide +kernel
theorem d_T_castObject_42 : decode prog_5_method_8_code 42 = .ok (.getfield 21, 3) := by decide +kernel
theorem d_T_castObject_45 : decode prog_5_method_8_code 45 = .ok (.iload_n 2, 1) := by decide +kernel
theorem d_T_castObject_46 : decode prog_5_method_8_code 46 = .ok (.aload_n 1, 1) := by decide +kernel
theorem d_T_castObject_47 : decode prog_5_method_8_code 47 = .ok (.getfield 104, 3) := by decide +kernel
theorem d_T_castObject_50 : decode prog_5_method_8_code 50 = .ok (.iadd, 1) := by decide +kernel
theorem d_T_castObject_51 : decode prog_5_method_8_code 51 = .ok (.iload_n 3, 1) := by decide +kernel
theorem d_T_castObject_52 : decode prog_5_method_8_code 52 = .ok (.iastore, 1) := by decide +kernel
theorem d_T_castObject_53 : decode prog_5_method_8_code 53 = .ok (.return_, 1) := by decide +kernel
theorem d_T_hasSlot_0 : decode prog_5_method_9_code 0 = .ok (.iload_n 1, 1) := by decide +kernel
theorem d_T_hasSlot_1 : decode prog_5_method_9_code 1 = .ok (.iconst (-1), 1) := by decide +kernel
theorem d_T_hasSlot_2 : decode prog_5_method_9_code 2 = .ok (.if_icmp .eq 27, 3) := by decide +kernel
theorem d_T_hasSlot_5 : decode prog_5_method_9_code 5 = .ok (.aload_n 0, 1) := by decide +kernel
theorem d_T_hasSlot_6 : decode prog_5_method_9_code 6 = .ok (.getfield 36, 3) := by decide +kernel
theorem d_T_hasSlot_9 : decode prog_5_method_9_code 9 = .ok (.iload_n 2, 1) := by decide +kernel
theorem d_T_hasSlot_10 : decode prog_5_method_9_code 10 = .ok (.invokevirtual 139, 3) := by decide +kernel
theorem d_T_hasSlot_13 : decode prog_5_method_9_code 13 = .ok (.aload_n 0, 1) := by decide +kernel
theorem d_T_hasSlot_14 : decode prog_5_method_9_code 14 = .ok (.getfield 9, 3) := by decide +kernel
theorem d_T_hasSlot_17 : decode prog_5_method_9_code 17 = .ok (.iload_n 1, 1) := by decide +kernel
theorem d_T_hasSlot_18 : decode prog_5_method_9_code 18 = .ok (.iaload, 1) := by decide +kernel
theorem d_T_hasSlot_19 : decode prog_5_method_9_code 19 = .ok (.invokestatic 135, 3) := by decide +kernel
theorem d_T_hasSlot_22 : decode prog_5_method_9_code 22 = .ok (.ifCond .eq 7, 3) := by decide +kernel
theorem d_T_hasSlot_25 : decode prog_5_method_9_code 25 = .ok (.iconst 1, 1) := by decide +kernel
theorem d_T_hasSlot_26 : decode prog_5_method_9_code 26 = .ok (.goto 4, 3) := by decide +kernel
theorem d_T_hasSlot_29 : decode prog_5_method_9_code 29 = .ok (.iconst 0, 1) := by decide +kernel
theorem d_T_hasSlot_30 : decode prog_5_method_9_code 30 = .ok (.ireturn, 1) := by decide +kernel
theorem d_T_readSlot_0 : decode prog_5_method_10_code 0 = .ok (.aload_n 0, 1) := by decide +kernel
theorem d_T_readSlot_1 : decode prog_5_method_10_code 1 = .ok (.iload_n 2, 1) := by decide +kernel
theorem d_T_readSlot_2 : decode prog_5_method_10_code 2 = .ok (.iload_n 3, 1) := by decide +kernel
theorem d_T_readSlot_3 : decode prog_5_method_10_code 3 = .ok (.invokevirtual 143, 3) := by decide +kernel
theorem d_T_readSlot_6 : decode prog_5_method_10_code 6 = .ok (.ifCond .eq 20, 3) := by decide +kernel
theorem d_T_readSlot_9 : decode prog_5_method_10_code 9 = .ok (.aload_n 0, 1) := by decide +kernel
theorem d_T_readSlot_10 : decode prog_5_method_10_code 10 = .ok (.getfield 21, 3) := by decide +kernel
theorem d_T_readSlot_13 : decode prog_5_method_10_code 13 = .ok (.iload_n 1, 1) := by decide +kernel
theorem d_T_readSlot_14 : decode prog_5_method_10_code 14 = .ok (.aload_n 0, 1) := by decide +kernel
theorem d_T_readSlot_15 : decode prog_5_method_10_code 15 = .ok (.getfield 15, 3) := by decide +kernel
theorem d_T_readSlot_18 : decode prog_5_method_10_code 18 = .ok (.iload_n 2, 1) := by decide +kernel
theorem d_T_readSlot_19 : decode prog_5_method_10_code 19 = .ok (.bipush 9, 2) := by decide +kernel
theorem d_T_readSlot_21 : decode prog_5_method_10_code 21 = .ok (.imul, 1) := by decide +kernel
theorem d_T_readSlot_22 : decode prog_5_method_10_code 22 = .ok (.iload_n 3, 1) := by decide +kernel
theorem d_T_readSlot_23 : decode prog_5_method_10_code 23 = .ok (.iadd, 1) := by decide +kernel
theorem d_T_readSlot_24 : decode prog_5_method_10_code 24 = .ok (.iaload, 1) := by decide +kernel
theorem d_T_readSlot_25 : decode prog_5_method_10_code 25 = .ok (.iastore, 1) := by decide +kernel
theorem d_T_readSlot_26 : decode prog_5_method_10_code 26 = .ok (.return_, 1) := by decide +kernel
theorem d_T_writeSlot_0 : decode prog_5_method_11_code 0 = .ok (.aload_n 0, 1) := by decide +kernel
theorem d_T_writeSlot_1 : decode prog_5_method_11_code 1 = .ok (.iload_n 1, 1) := by decide +kernel
theorem d_T_writeSlot_2 : decode prog_5_method_11_code 2 = .ok (.iload_n 2, 1) := by decide +kernel
theorem d_T_writeSlot_3 : decode prog_5_method_11_code 3 = .ok (.invokevirtual 143, 3) := by decide +kernel
theorem d_T_writeSlot_6 : decode prog_5_method_11_code 6 = .ok (.ifCond .eq 30, 3) := by decide +kernel
theorem d_T_writeSlot_9 : decode prog_5_method_11_code 9 = .ok (.aload_n 0, 1) := by decide +kernel
theorem d_T_writeSlot_10 : decode prog_5_method_11_code 10 = .ok (.getfield 15, 3) := by decide +kernel
theorem d_T_writeSlot_13 : decode prog_5_method_11_code 13 = .ok (.iload_n 1, 1) := by decide +kernel
theorem d_T_writeSlot_14 : decode prog_5_method_11_code 14 = .ok (.bipush 9, 2) := by decide +kernel
theorem d_T_writeSlot_16 : decode prog_5_method_11_code 16 = .ok (.imul, 1) := by decide +kernel
theorem d_T_writeSlot_17 : decode prog_5_method_11_code 17 = .ok (.iload_n 2, 1) := by decide +kernel
theorem d_T_writeSlot_18 : decode prog_5_method_11_code 18 = .ok (.iadd, 1) := by decide +kernel
theorem d_T_writeSlot_19 : decode prog_5_method_11_code 19 = .ok (.iload_n 3, 1) := by decide +kernel
theorem d_T_writeSlot_20 : decode prog_5_method_11_code 20 = .ok (.iastore, 1) := by decide +kernel
theorem d_T_writeSlot_21 : decode prog_5_method_11_code 21 = .ok (.aload_n 0, 1) := by decide +kernel
theorem d_T_writeSlot_22 : decode prog_5_method_11_code 22 = .ok (.iload_n 3, 1) := by decide +kernel
theorem d_T_writeSlot_23 : decode prog_5_method_11_code 23 = .ok (.aload_n 0, 1) := by decide +kernel
theorem d_T_writeSlot_24 : decode prog_5_method_11_code 24 = .ok (.getfield 9, 3) := by decide +kernel
theorem d_T_writeSlot_27 : decode prog_5_method_11_code 27 = .ok (.iload_n 1, 1) := by decide +kernel
theorem d_T_writeSlot_28 : decode prog_5_method_11_code 28 = .ok (.iaload, 1) := by decide +kernel
theorem d_T_writeSlot_29 : decode prog_5_method_11_code 29 = .ok (.iload_n 2, 1) := by decide +kernel
theorem d_T_writeSlot_30 : decode prog_5_method_11_code 30 = .ok (.invokestatic 146, 3) := by decide +kernel
theorem d_T_writeSlot_33 : decode prog_5_method_11_code 33 = .ok (.invokevirtual 122, 3) := by decide +kernel
theorem d_T_writeSlot_36 : decode prog_5_method_11_code 36 = .ok (.return_, 1) := by decide +kernel
theorem d_T_enterMethod_0 : decode prog_5_method_12_code 0 = .ok (.aload_n 0, 1) := by decide +kernel
theorem d_T_enterMethod_1 : decode prog_5_method_12_code 1 = .ok (.getfield 21, 3) := by decide +kernel
theorem d_T_enterMethod_4 : decode prog_5_method_12_code 4 = .ok (.iload_n 2, 1) := by decide +kernel
theorem d_T_enterMethod_5 : decode prog_5_method_12_code 5 = .ok (.aload_n 1, 1) := by decide +kernel
theorem d_T_enterMethod_6 : decode prog_5_method_12_code 6 = .ok (.getfield 107, 3) := by decide +kernel
theorem d_T_enterMethod_9 : decode prog_5_method_12_code 9 = .ok (.iadd, 1) := by decide +kernel
theorem d_T_enterMethod_10 : decode prog_5_method_12_code 10 = .ok (.iaload, 1) := by decide +kernel
theorem d_T_enterMethod_11 : decode prog_5_method_12_code 11 = .ok (.istore_n 3, 1) := by decide +kernel
theorem d_T_enterMethod_12 : decode prog_5_method_12_code 12 = .ok (.iload_n 3, 1) := by decide +kernel
theorem d_T_enterMethod_13 : decode prog_5_method_12_code 13 = .ok (.iconst (-1), 1) := by decide +kernel
theorem d_T_enterMethod_14 : decode prog_5_method_12_code 14 = .ok (.if_icmp .eq 12, 3) := by decide +kernel
theorem d_T_enterMethod_17 : decode prog_5_method_12_code 17 = .ok (.aload_n 0, 1) := by decide +kernel
theorem d_T_enterMethod_18 : decode prog_5_method_12_code 18 = .ok (.getfield 54, 3) := by decide +kernel
theorem d_T_enterMethod_21 : decode prog_5_method_12_code 21 = .ok (.bipush 10, 2) := by decide +kernel
theorem d_T_enterMethod_23 : decode prog_5_method_12_code 23 = .ok (.if_icmp .lt 4, 3) := by decide +kernel
theorem d_T_enterMethod_26 : decode prog_5_method_12_code 26 = .ok (.return_, 1) := by decide +kernel
theorem d_T_enterMethod_27 : decode prog_5_method_12_code 27 = .ok (.aload_n 0, 1) := by decide +kernel
theorem d_T_enterMethod_28 : decode prog_5_method_12_code 28 = .ok (.getfield 9, 3) := by decide +kernel
theorem d_T_enterMethod_31 : decode prog_5_method_12_code 31 = .ok (.iload_n 3, 1) := by decide +kernel
theorem d_T_enterMethod_32 : decode prog_5_method_12_code 32 = .ok (.iaload, 1) := by decide +kernel
theorem d_T_enterMethod_33 : decode prog_5_method_12_code 33 = .ok (.istore 4, 2) := by decide +kernel
theorem d_T_enterMethod_35 : decode prog_5_method_12_code 35 = .ok (.aload_n 0, 1) := by decide +kernel
theorem d_T_enterMethod_36 : decode prog_5_method_12_code 36 = .ok (.getfield 36, 3) := by decide +kernel
theorem d_T_enterMethod_39 : decode prog_5_method_12_code 39 = .ok (.iload 4, 2) := by decide +kernel
theorem d_T_enterMethod_41 : decode prog_5_method_12_code 41 = .ok (.aload_n 1, 1) := by decide +kernel
theorem d_T_enterMethod_42 : decode prog_5_method_12_code 42 = .ok (.getfield 110, 3) := by decide +kernel
theorem d_T_enterMethod_45 : decode prog_5_method_12_code 45 = .ok (.invokevirtual 150, 3) := by decide +kernel
theorem d_T_enterMethod_48 : decode prog_5_method_12_code 48 = .ok (.istore 5, 2) := by decide +kernel
theorem d_T_enterMethod_50 : decode prog_5_method_12_code 50 = .ok (.iload 5, 2) := by decide +kernel
theorem d_T_enterMethod_52 : decode prog_5_method_12_code 52 = .ok (.iconst (-1), 1) := by decide +kernel
theorem d_T_enterMethod_53 : decode prog_5_method_12_code 53 = .ok (.if_icmp .ne 4, 3) := by decide +kernel
theorem d_T_enterMethod_56 : decode prog_5_method_12_code 56 = .ok (.return_, 1) := by decide +kernel
theorem d_T_enterMethod_57 : decode prog_5_method_12_code 57 = .ok (.aload_n 0, 1) := by decide +kernel
theorem d_T_enterMethod_58 : decode prog_5_method_12_code 58 = .ok (.getfield 54, 3) := by decide +kernel
theorem d_T_enterMethod_61 : decode prog_5_method_12_code 61 = .ok (.bipush 6, 2) := by decide +kernel
theorem d_T_enterMethod_63 : decode prog_5_method_12_code 63 = .ok (.imul, 1) := by decide +kernel
theorem d_T_enterMethod_64 : decode prog_5_method_12_code 64 = .ok (.istore 6, 2) := by decide +kernel
theorem d_T_enterMethod_66 : decode prog_5_method_12_code 66 = .ok (.aload_n 0, 1) := by decide +kernel
theorem d_T_enterMethod_67 : decode prog_5_method_12_code 67 = .ok (.iload 5, 2) := by decide +kernel
theorem d_T_enterMethod_69 : decode prog_5_method_12_code 69 = .ok (.aload_n 0, 1) := by decide +kernel
theorem d_T_enterMethod_70 : decode prog_5_method_12_code 70 = .ok (.getfield 40, 3) := by decide +kernel
theorem d_T_enterMethod_73 : decode prog_5_method_12_code 73 = .ok (.iload 4, 2) := by decide +kernel
theorem d_T_enterMethod_75 : decode prog_5_method_12_code 75 = .ok (.invokevirtual 153, 3) := by decide +kernel
theorem d_T_enterMethod_78 : decode prog_5_method_12_code 78 = .ok (.aload_n 1, 1) := by decide +kernel
theorem d_T_enterMethod_79 : decode prog_5_method_12_code 79 = .ok (.getfield 104, 3) := by decide +kernel
theorem d_T_enterMethod_82 : decode prog_5_method_12_code 82 = .ok (.invokevirtual 63, 3) := by decide +kernel
theorem d_T_enterMethod_85 : decode prog_5_method_12_code 85 = .ok (.aload_n 0, 1) := by decide +kernel
theorem d_T_enterMethod_86 : decode prog_5_method_12_code 86 = .ok (.getfield 21, 3) := by decide +kernel
theorem d_T_enterMethod_89 : decode prog_5_method_12_code 89 = .ok (.iload 6, 2) := by decide +kernel
theorem d_T_enterMethod_91 : decode prog_5_method_12_code 91 = .ok (.iconst 0, 1) := by decide +kernel
theorem d_T_enterMethod_92 : decode prog_5_method_12_code 92 = .ok (.iadd, 1) := by decide +kernel
theorem d_T_enterMethod_93 : decode prog_5_method_12_code 93 = .ok (.iload_n 3, 1) := by decide +kernel
theorem d_T_enterMethod_94 : decode prog_5_method_12_code 94 = .ok (.iastore, 1) := by decide +kernel
theorem d_T_enterMethod_95 : decode prog_5_method_12_code 95 = .ok (.aload_n 0, 1) := by decide +kernel
theorem d_T_enterMethod_96 : decode prog_5_method_12_code 96 = .ok (.getfield 21, 3) := by decide +kernel
theorem d_T_enterMethod_99 : decode prog_5_method_12_code 99 = .ok (.iload 6, 2) := by decide +kernel
theorem d_T_enterMethod_101 : decode prog_5_method_12_code 101 = .ok (.iconst 1, 1) := by decide +kernel
theorem d_T_enterMethod_102 : decode prog_5_method_12_code 102 = .ok (.iadd, 1) := by decide +kernel
theorem d_T_enterMethod_103 : decode prog_5_method_12_code 103 = .ok (.aload_n 0, 1) := by decide +kernel
theorem d_T_enterMethod_104 : decode prog_5_method_12_code 104 = .ok (.getfield 21, 3) := by decide +kernel
theorem d_T_enterMethod_107 : decode prog_5_method_12_code 107 = .ok (.iload_n 2, 1) := by decide +kernel
theorem d_T_enterMethod_108 : decode prog_5_method_12_code 108 = .ok (.aload_n 1, 1) := by decide +kernel
theorem d_T_enterMethod_109 : decode prog_5_method_12_code 109 = .ok (.getfield 158, 3) := by decide +kernel
theorem d_T_enterMethod_112 : decode prog_5_method_12_code 112 = .ok (.iadd, 1) := by decide +kernel
theorem d_T_enterMethod_113 : decode prog_5_method_12_code 113 = .ok (.iaload, 1) := by decide +kernel
theorem d_T_enterMethod_114 : decode prog_5_method_12_code 114 = .ok (.iastore, 1) := by decide +kernel
theorem d_T_enterMethod_115 : decode prog_5_method_12_code 115 = .ok (.aload_n 0, 1) := by decide +kernel
theorem d_T_enterMethod_116 : decode prog_5_method_12_code 116 = .ok (.getfield 21, 3) := by decide +kernel
theorem d_T_enterMethod_119 : decode prog_5_method_12_code 119 = .ok (.iload 6, 2) := by decide +kernel
theorem d_T_enterMethod_121 : decode prog_5_method_12_code 121 = .ok (.iconst 2, 1) := by decide +kernel
theorem d_T_enterMethod_122 : decode prog_5_method_12_code 122 = .ok (.iadd, 1) := by decide +kernel
theorem d_T_enterMethod_123 : decode prog_5_method_12_code 123 = .ok (.aload_n 0, 1) := by decide +kernel
theorem d_T_enterMethod_124 : decode prog_5_method_12_code 124 = .ok (.getfield 21, 3) := by decide +kernel
theorem d_T_enterMethod_127 : decode prog_5_method_12_code 127 = .ok (.iload_n 2, 1) := by decide +kernel
theorem d_T_enterMethod_128 : decode prog_5_method_12_code 128 = .ok (.aload_n 1, 1) := by decide +kernel
theorem d_T_enterMethod_129 : decode prog_5_method_12_code 129 = .ok (.getfield 161, 3) := by decide +kernel
theorem d_T_enterMethod_132 : decode prog_5_method_12_code 132 = .ok (.iadd, 1) := by decide +kernel
theorem d_T_enterMethod_133 : decode prog_5_method_12_code 133 = .ok (.iaload, 1) := by decide +kernel
theorem d_T_enterMethod_134 : decode prog_5_method_12_code 134 = .ok (.iastore, 1) := by decide +kernel
theorem d_T_enterMethod_135 : decode prog_5_method_12_code 135 = .ok (.aload_n 0, 1) := by decide +kernel
theorem d_T_enterMethod_136 : decode prog_5_method_12_code 136 = .ok (.dup, 1) := by decide +kernel
theorem d_T_enterMethod_137 : decode prog_5_method_12_code 137 = .ok (.getfield 57, 3) := by decide +kernel
theorem d_T_enterMethod_140 : decode prog_5_method_12_code 140 = .ok (.iconst 1, 1) := by decide +kernel
theorem d_T_enterMethod_141 : decode prog_5_method_12_code 141 = .ok (.iadd, 1) := by decide +kernel
theorem d_T_enterMethod_142 : decode prog_5_method_12_code 142 = .ok (.putfield 57, 3) := by decide +kernel
theorem d_T_enterMethod_145 : decode prog_5_method_12_code 145 = .ok (.return_, 1) := by decide +kernel
theorem d_T_lookAt_0 : decode prog_5_method_13_code 0 = .ok (.iload_n 1, 1) := by decide +kernel
theorem d_T_lookAt_1 : decode prog_5_method_13_code 1 = .ok (.iconst (-1), 1) := by decide +kernel
theorem d_T_lookAt_2 : decode prog_5_method_13_code 2 = .ok (.if_icmp .eq 28, 3) := by decide +kernel
theorem d_T_lookAt_5 : decode prog_5_method_13_code 5 = .ok (.aload_n 0, 1) := by decide +kernel
theorem d_T_lookAt_6 : decode prog_5_method_13_code 6 = .ok (.getfield 40, 3) := by decide +kernel
theorem d_T_lookAt_9 : decode prog_5_method_13_code 9 = .ok (.iload_n 2, 1) := by decide +kernel
theorem d_T_lookAt_10 : decode prog_5_method_13_code 10 = .ok (.invokevirtual 164, 3) := by decide +kernel
theorem d_T_lookAt_13 : decode prog_5_method_13_code 13 = .ok (.aload_n 0, 1) := by decide +kernel
theorem d_T_lookAt_14 : decode prog_5_method_13_code 14 = .ok (.getfield 9, 3) := by decide +kernel
theorem d_T_lookAt_17 : decode prog_5_method_13_code 17 = .ok (.iload_n 1, 1) := by decide +kernel
theorem d_T_lookAt_18 : decode prog_5_method_13_code 18 = .ok (.iaload, 1) := by decide +kernel
theorem d_T_lookAt_19 : decode prog_5_method_13_code 19 = .ok (.invokestatic 135, 3) := by decide +kernel
theorem d_T_lookAt_22 : decode prog_5_method_13_code 22 = .ok (.ifCond .ne 8, 3) := by decide +kernel
theorem d_T_lookAt_25 : decode prog_5_method_13_code 25 = .ok (.aload_n 0, 1) := by decide +kernel
theorem d_T_lookAt_26 : decode prog_5_method_13_code 26 = .ok (.iconst 0, 1) := by decide +kernel
theorem d_T_lookAt_27 : decode prog_5_method_13_code 27 = .ok (.putfield 67, 3) := by decide +kernel
theorem d_T_lookAt_30 : decode prog_5_method_13_code 30 = .ok (.return_, 1) := by decide +kernel
theorem d_T_lookAtNames_0 : decode prog_5_method_14_code 0 = .ok (.aload_n 0, 1) := by decide +kernel
theorem d_T_lookAtNames_1 : decode prog_5_method_14_code 1 = .ok (.getfield 54, 3) := by decide +kernel
theorem d_T_lookAtNames_4 : decode prog_5_method_14_code 4 = .ok (.iconst 1, 1) := by decide +kernel
theorem d_T_lookAtNames_5 : decode prog_5_method_14_code 5 = .ok (.isub, 1) := by decide +kernel
theorem d_T_lookAtNames_6 : decode prog_5_method_14_code 6 = .ok (.istore_n 1, 1) := by decide +kernel
theorem d_T_lookAtNames_7 : decode prog_5_method_14_code 7 = .ok (.aload_n 0, 1) := by decide +kernel
theorem d_T_lookAtNames_8 : decode prog_5_method_14_code 8 = .ok (.getfield 24, 3) := by decide +kernel
theorem d_T_lookAtNames_11 : decode prog_5_method_14_code 11 = .ok (.iload_n 1, 1) := by decide +kernel
theorem d_T_lookAtNames_12 : decode prog_5_method_14_code 12 = .ok (.iaload, 1) := by decide +kernel
theorem d_T_lookAtNames_13 : decode prog_5_method_14_code 13 = .ok (.istore_n 2, 1) := by decide +kernel
theorem d_T_lookAtNames_14 : decode prog_5_method_14_code 14 = .ok (.iload_n 2, 1) := by decide +kernel
theorem d_T_lookAtNames_15 : decode prog_5_method_14_code 15 = .ok (.aload_n 0, 1) := by decide +kernel
theorem d_T_lookAtNames_16 : decode prog_5_method_14_code 16 = .ok (.getfield 27, 3) := by decide +kernel
theorem d_T_lookAtNames_19 : decode prog_5_method_14_code 19 = .ok (.iload_n 1, 1) := by decide +kernel
theorem d_T_lookAtNames_20 : decode prog_5_method_14_code 20 = .ok (.iaload, 1) := by decide +kernel
theorem d_T_lookAtNames_21 : decode prog_5_method_14_code 21 = .ok (.invokestatic 167, 3) := by decide +kernel
theorem d_T_lookAtNames_24 : decode prog_5_method_14_code 24 = .ok (.istore_n 3, 1) := by decide +kernel
theorem d_T_lookAtNames_25 : decode prog_5_method_14_code 25 = .ok (.iconst 0, 1) := by decide +kernel
theorem d_T_lookAtNames_26 : decode prog_5_method_14_code 26 = .ok (.istore 4, 2) := by decide +kernel
theorem d_T_lookAtNames_28 : decode prog_5_method_14_code 28 = .ok (.iload 4, 2) := by decide +kernel
theorem d_T_lookAtNames_30 : decode prog_5_method_14_code 30 = .ok (.bipush 6, 2) := by decide +kernel
theorem d_T_lookAtNames_32 : decode prog_5_method_14_code 32 = .ok (.if_icmp .ge 63, 3) := by decide +kernel
theorem d_T_lookAtNames_35 : decode prog_5_method_14_code 35 = .ok (.aload_n 0, 1) := by decide +kernel
theorem d_T_lookAtNames_36 : decode prog_5_method_14_code 36 = .ok (.getfield 21, 3) := by decide +kernel
theorem d_T_lookAtNames_39 : decode prog_5_method_14_code 39 = .ok (.iload_n 1, 1) := by decide +kernel
theorem d_T_lookAtNames_40 : decode prog_5_method_14_code 40 = .ok (.bipush 6, 2) := by decide +kernel
theorem d_T_lookAtNames_42 : decode prog_5_method_14_code 42 = .ok (.imul, 1) := by decide +kernel
theorem d_T_lookAtNames_43 : decode prog_5_method_14_code 43 = .ok (.iload 4, 2) := by decide +kernel
theorem d_T_lookAtNames_45 : decode prog_5_method_14_code 45 = .ok (.iadd, 1) := by decide +kernel
theorem d_T_lookAtNames_46 : decode prog_5_method_14_code 46 = .ok (.iaload, 1) := by decide +kernel
theorem d_T_lookAtNames_47 : decode prog_5_method_14_code 47 = .ok (.istore 5, 2) := by decide +kernel
theorem d_T_lookAtNames_49 : decode prog_5_method_14_code 49 = .ok (.iload 5, 2) := by decide +kernel
theorem d_T_lookAtNames_51 : decode prog_5_method_14_code 51 = .ok (.iconst (-1), 1) := by decide +kernel
theorem d_T_lookAtNames_52 : decode prog_5_method_14_code 52 = .ok (.if_icmp .eq 37, 3) := by decide +kernel
theorem d_T_lookAtNames_55 : decode prog_5_method_14_code 55 = .ok (.aload_n 0, 1) := by decide +kernel
theorem d_T_lookAtNames_56 : decode prog_5_method_14_code 56 = .ok (.getfield 33, 3) := by decide +kernel
theorem d_T_lookAtNames_59 : decode prog_5_method_14_code 59 = .ok (.iload_n 2, 1) := by decide +kernel
theorem d_T_lookAtNames_60 : decode prog_5_method_14_code 60 = .ok (.bipush 6, 2) := by decide +kernel
theorem d_T_lookAtNames_62 : decode prog_5_method_14_code 62 = .ok (.imul, 1) := by decide +kernel
theorem d_T_lookAtNames_63 : decode prog_5_method_14_code 63 = .ok (.iload 4, 2) := by decide +kernel
theorem d_T_lookAtNames_65 : decode prog_5_method_14_code 65 = .ok (.iadd, 1) := by decide +kernel
theorem d_T_lookAtNames_66 : decode prog_5_method_14_code 66 = .ok (.dup2, 1) := by decide +kernel
theorem d_T_lookAtNames_67 : decode prog_5_method_14_code 67 = .ok (.iaload, 1) := by decide +kernel
theorem d_T_lookAtNames_68 : decode prog_5_method_14_code 68 = .ok (.iconst 1, 1) := by decide +kernel
theorem d_T_lookAtNames_69 : decode prog_5_method_14_code 69 = .ok (.aload_n 0, 1) := by decide +kernel
theorem d_T_lookAtNames_70 : decode prog_5_method_14_code 70 = .ok (.getfield 9, 3) := by decide +kernel
theorem d_T_lookAtNames_73 : decode prog_5_method_14_code 73 = .ok (.iload 5, 2) := by decide +kernel
theorem d_T_lookAtNames_75 : decode prog_5_method_14_code 75 = .ok (.iaload, 1) := by decide +kernel
theorem d_T_lookAtNames_76 : decode prog_5_method_14_code 76 = .ok (.ishl, 1) := by decide +kernel
theorem d_T_lookAtNames_77 : decode prog_5_method_14_code 77 = .ok (.ior, 1) := by decide +kernel
theorem d_T_lookAtNames_78 : decode prog_5_method_14_code 78 = .ok (.iastore, 1) := by decide +kernel
theorem d_T_lookAtNames_79 : decode prog_5_method_14_code 79 = .ok (.aload_n 0, 1) := by decide +kernel
theorem d_T_lookAtNames_80 : decode prog_5_method_14_code 80 = .ok (.iload 5, 2) := by decide +kernel
theorem d_T_lookAtNames_82 : decode prog_5_method_14_code 82 = .ok (.iload_n 3, 1) := by decide +kernel
theorem d_T_lookAtNames_83 : decode prog_5_method_14_code 83 = .ok (.iload 4, 2) := by decide +kernel
theorem d_T_lookAtNames_85 : decode prog_5_method_14_code 85 = .ok (.iadd, 1) := by decide +kernel
theorem d_T_lookAtNames_86 : decode prog_5_method_14_code 86 = .ok (.invokevirtual 122, 3) := by decide +kernel
theorem d_T_lookAtNames_89 : decode prog_5_method_14_code 89 = .ok (.iinc 4 1, 3) := by decide +kernel
theorem d_T_lookAtNames_92 : decode prog_5_method_14_code 92 = .ok (.goto (-64), 3) := by decide +kernel
theorem d_T_lookAtNames_95 : decode prog_5_method_14_code 95 = .ok (.return_, 1) := by decide +kernel
theorem d_I_bitCount_0 : decode prog_8_method_49_code 0 = .ok (.iload_n 0, 1) := by decide +kernel
theorem d_I_bitCount_1 : decode prog_8_method_49_code 1 = .ok (.iload_n 0, 1) := by decide +kernel
theorem d_I_bitCount_2 : decode prog_8_method_49_code 2 = .ok (.iconst 1, 1) := by decide +kernel
theorem d_I_bitCount_3 : decode prog_8_method_49_code 3 = .ok (.iushr, 1) := by decide +kernel
theorem d_I_bitCount_4 : decode prog_8_method_49_code 4 = .ok (.ldc_w 265, 3) := by decide +kernel
theorem d_I_bitCount_7 : decode prog_8_method_49_code 7 = .ok (.iand, 1) := by decide +kernel
theorem d_I_bitCount_8 : decode prog_8_method_49_code 8 = .ok (.isub, 1) := by decide +kernel
theorem d_I_bitCount_9 : decode prog_8_method_49_code 9 = .ok (.istore_n 0, 1) := by decide +kernel
theorem d_I_bitCount_10 : decode prog_8_method_49_code 10 = .ok (.iload_n 0, 1) := by decide +kernel
theorem d_I_bitCount_11 : decode prog_8_method_49_code 11 = .ok (.ldc_w 266, 3) := by decide +kernel
theorem d_I_bitCount_14 : decode prog_8_method_49_code 14 = .ok (.iand, 1) := by decide +kernel
theorem d_I_bitCount_15 : decode prog_8_method_49_code 15 = .ok (.iload_n 0, 1) := by decide +kernel
theorem d_I_bitCount_16 : decode prog_8_method_49_code 16 = .ok (.iconst 2, 1) := by decide +kernel
theorem d_I_bitCount_17 : decode prog_8_method_49_code 17 = .ok (.iushr, 1) := by decide +kernel
theorem d_I_bitCount_18 : decode prog_8_method_49_code 18 = .ok (.ldc_w 266, 3) := by decide +kernel
theorem d_I_bitCount_21 : decode prog_8_method_49_code 21 = .ok (.iand, 1) := by decide +kernel
theorem d_I_bitCount_22 : decode prog_8_method_49_code 22 = .ok (.iadd, 1) := by decide +kernel
theorem d_I_bitCount_23 : decode prog_8_method_49_code 23 = .ok (.istore_n 0, 1) := by decide +kernel
theorem d_I_bitCount_24 : decode prog_8_method_49_code 24 = .ok (.iload_n 0, 1) := by decide +kernel
theorem d_I_bitCount_25 : decode prog_8_method_49_code 25 = .ok (.iload_n 0, 1) := by decide +kernel
theorem d_I_bitCount_26 : decode prog_8_method_49_code 26 = .ok (.iconst 4, 1) := by decide +kernel
theorem d_I_bitCount_27 : decode prog_8_method_49_code 27 = .ok (.iushr, 1) := by decide +kernel
theorem d_I_bitCount_28 : decode prog_8_method_49_code 28 = .ok (.iadd, 1) := by decide +kernel
theorem d_I_bitCount_29 : decode prog_8_method_49_code 29 = .ok (.ldc_w 267, 3) := by decide +kernel
theorem d_I_bitCount_32 : decode prog_8_method_49_code 32 = .ok (.iand, 1) := by decide +kernel
theorem d_I_bitCount_33 : decode prog_8_method_49_code 33 = .ok (.istore_n 0, 1) := by decide +kernel
theorem d_I_bitCount_34 : decode prog_8_method_49_code 34 = .ok (.iload_n 0, 1) := by decide +kernel
theorem d_I_bitCount_35 : decode prog_8_method_49_code 35 = .ok (.iload_n 0, 1) := by decide +kernel
theorem d_I_bitCount_36 : decode prog_8_method_49_code 36 = .ok (.bipush 8, 2) := by decide +kernel
theorem d_I_bitCount_38 : decode prog_8_method_49_code 38 = .ok (.iushr, 1) := by decide +kernel
theorem d_I_bitCount_39 : decode prog_8_method_49_code 39 = .ok (.iadd, 1) := by decide +kernel
theorem d_I_bitCount_40 : decode prog_8_method_49_code 40 = .ok (.istore_n 0, 1) := by decide +kernel
theorem d_I_bitCount_41 : decode prog_8_method_49_code 41 = .ok (.iload_n 0, 1) := by decide +kernel
theorem d_I_bitCount_42 : decode prog_8_method_49_code 42 = .ok (.iload_n 0, 1) := by decide +kernel
theorem d_I_bitCount_43 : decode prog_8_method_49_code 43 = .ok (.bipush 16, 2) := by decide +kernel
theorem d_I_bitCount_45 : decode prog_8_method_49_code 45 = .ok (.iushr, 1) := by decide +kernel
theorem d_I_bitCount_46 : decode prog_8_method_49_code 46 = .ok (.iadd, 1) := by decide +kernel
theorem d_I_bitCount_47 : decode prog_8_method_49_code 47 = .ok (.istore_n 0, 1) := by decide +kernel
theorem d_I_bitCount_48 : decode prog_8_method_49_code 48 = .ok (.iload_n 0, 1) := by decide +kernel
theorem d_I_bitCount_49 : decode prog_8_method_49_code 49 = .ok (.bipush 63, 2) := by decide +kernel
theorem d_I_bitCount_51 : decode prog_8_method_49_code 51 = .ok (.iand, 1) := by decide +kernel
theorem d_I_bitCount_52 : decode prog_8_method_49_code 52 = .ok (.ireturn, 1) := by decide +kernel
theorem d_A_fill_0 : decode prog_10_method_103_code 0 = .ok (.iconst 0, 1) := by decide +kernel
theorem d_A_fill_1 : decode prog_10_method_103_code 1 = .ok (.istore_n 2, 1) := by decide +kernel
theorem d_A_fill_2 : decode prog_10_method_103_code 2 = .ok (.aload_n 0, 1) := by decide +kernel
theorem d_A_fill_3 : decode prog_10_method_103_code 3 = .ok (.arraylength, 1) := by decide +kernel
theorem d_A_fill_4 : decode prog_10_method_103_code 4 = .ok (.istore_n 3, 1) := by decide +kernel
theorem d_A_fill_5 : decode prog_10_method_103_code 5 = .ok (.iload_n 2, 1) := by decide +kernel
theorem d_A_fill_6 : decode prog_10_method_103_code 6 = .ok (.iload_n 3, 1) := by decide +kernel
theorem d_A_fill_7 : decode prog_10_method_103_code 7 = .ok (.if_icmp .ge 13, 3) := by decide +kernel
theorem d_A_fill_10 : decode prog_10_method_103_code 10 = .ok (.aload_n 0, 1) := by decide +kernel
theorem d_A_fill_11 : decode prog_10_method_103_code 11 = .ok (.iload_n 2, 1) := by decide +kernel
theorem d_A_fill_12 : decode prog_10_method_103_code 12 = .ok (.iload_n 1, 1) := by decide +kernel
theorem d_A_fill_13 : decode prog_10_method_103_code 13 = .ok (.iastore, 1) := by decide +kernel
theorem d_A_fill_14 : decode prog_10_method_103_code 14 = .ok (.iinc 2 1, 3) := by decide +kernel
theorem d_A_fill_17 : decode prog_10_method_103_code 17 = .ok (.goto (-12), 3) := by decide +kernel
theorem d_A_fill_20 : decode prog_10_method_103_code 20 = .ok (.return_, 1) := by decide +kernel
theorem d_A_fillR_0 : decode prog_10_method_104_code 0 = .ok (.aload_n 0, 1) := by decide +kernel
theorem d_A_fillR_1 : decode prog_10_method_104_code 1 = .ok (.arraylength, 1) := by decide +kernel
theorem d_A_fillR_2 : decode prog_10_method_104_code 2 = .ok (.iload_n 1, 1) := by decide +kernel
theorem d_A_fillR_3 : decode prog_10_method_104_code 3 = .ok (.iload_n 2, 1) := by decide +kernel
theorem d_A_fillR_4 : decode prog_10_method_104_code 4 = .ok (.invokestatic 13, 3) := by decide +kernel
theorem d_A_fillR_7 : decode prog_10_method_104_code 7 = .ok (.iload_n 1, 1) := by decide +kernel
theorem d_A_fillR_8 : decode prog_10_method_104_code 8 = .ok (.istore 4, 2) := by decide +kernel
theorem d_A_fillR_10 : decode prog_10_method_104_code 10 = .ok (.iload 4, 2) := by decide +kernel
theorem d_A_fillR_12 : decode prog_10_method_104_code 12 = .ok (.iload_n 2, 1) := by decide +kernel
theorem d_A_fillR_13 : decode prog_10_method_104_code 13 = .ok (.if_icmp .ge 14, 3) := by decide +kernel
theorem d_A_fillR_16 : decode prog_10_method_104_code 16 = .ok (.aload_n 0, 1) := by decide +kernel
theorem d_A_fillR_17 : decode prog_10_method_104_code 17 = .ok (.iload 4, 2) := by decide +kernel
theorem d_A_fillR_19 : decode prog_10_method_104_code 19 = .ok (.iload_n 3, 1) := by decide +kernel
theorem d_A_fillR_20 : decode prog_10_method_104_code 20 = .ok (.iastore, 1) := by decide +kernel
theorem d_A_fillR_21 : decode prog_10_method_104_code 21 = .ok (.iinc 4 1, 3) := by decide +kernel
theorem d_A_fillR_24 : decode prog_10_method_104_code 24 = .ok (.goto (-14), 3) := by decide +kernel
theorem d_A_fillR_27 : decode prog_10_method_104_code 27 = .ok (.return_, 1) := by decide +kernel
theorem r_G_tell_0 {Q : Option mV → mS → Prop} {σ : mS} {x1 x2 x3 x4 x5 x6 : Int32} {n0 : Nat} (h : Q none (m_up (m_up (m_up (m_up (m_up (m_up σ (59 + n0 % 60) 2 x1) (59 + n0 % 60) 3 x2) (59 + n0 % 60) 4 x3) (59 + n0 % 60) 5 x4) (59 + n0 % 60) 6 x5) (59 + n0 % 60) 7 x6)) : J M_G_tell Q 0 [some (.inr (59, n0)), some (.inl x1), some (.inl x2), some (.inl x3), some (.inl x4), some (.inl x5), some (.inl x6)] [] σ :=
  J_aload_n (i := 0) rfl rfl d_G_tell_0 <|
  J_iload_n (i := 1) rfl rfl d_G_tell_1 <|
  pG_7 rfl d_G_tell_2 <|
  J_aload_n (i := 0) rfl rfl d_G_tell_5 <|
  J_iload_n (i := 2) rfl rfl d_G_tell_6 <|
  pG_13 rfl d_G_tell_7 <|
  J_aload_n (i := 0) rfl rfl d_G_tell_10 <|
  J_iload_n (i := 3) rfl rfl d_G_tell_11 <|
  pG_16 rfl d_G_tell_12 <|
  J_aload_n (i := 0) rfl rfl d_G_tell_15 <|
  J_iload (i := 4) rfl d_G_tell_16 <|
  pG_19 rfl d_G_tell_18 <|
  J_aload_n (i := 0) rfl rfl d_G_tell_21 <|
  J_iload (i := 5) rfl d_G_tell_22 <|
  pG_22 rfl d_G_tell_24 <|
  J_aload_n (i := 0) rfl rfl d_G_tell_27 <|
  J_iload (i := 6) rfl d_G_tell_28 <|
  pG_25 rfl d_G_tell_30 <|
  J_vret rfl d_G_tell_33 (h)
theorem r_T_forget_0 {Q : Option mV → mS → Prop} {σ : mS} (h : MU M_A_fill [.inr (23, 0), .inl (0 : Int32)] σ (fun r s1 => r = none ∧ (Q none (m_up (m_up (m_up s1 3 11 (0 : Int32)) 3 12 (0 : Int32)) 3 13 (0 : Int32))))) : J M_T_forget Q 0 [some (.inr (3, 0))] [] σ :=
  J_aload_n (i := 0) rfl rfl d_T_forget_0 <|
  gT_33 rfl d_T_forget_1 <|
  J_iconst (v := (0 : Int32)) d_T_forget_4 (by decide) <|
  kT_44_v rfl rfl rfl (args := [.inr (23, 0), .inl (0 : Int32)]) (h) d_T_forget_5 (fun s1 h2 =>
  J_aload_n (i := 0) rfl rfl d_T_forget_8 <|
  J_iconst (v := (0 : Int32)) d_T_forget_9 (by decide) <|
  pT_50 rfl d_T_forget_10 <|
  J_aload_n (i := 0) rfl rfl d_T_forget_13 <|
  J_iconst (v := (0 : Int32)) d_T_forget_14 (by decide) <|
  pT_54 rfl d_T_forget_15 <|
  J_aload_n (i := 0) rfl rfl d_T_forget_18 <|
  J_iconst (v := (0 : Int32)) d_T_forget_19 (by decide) <|
  pT_57 rfl d_T_forget_20 <|
  J_vret rfl d_T_forget_23 (h2))
theorem r_T_holdsFor_0 {Q : Option mV → mS → Prop} {σ : mS} {x1 x2 : Int32} (h : MU M_T_forget [.inr (3, 0)] σ (fun r s1 => r = none ∧ (MU M_A_fill [.inr (18, 0), .inl (-1 : Int32)] s1 (fun r s3 => r = none ∧ (MU M_T_pushFrame [.inr (3, 0), .inl (0 : Int32), .inl (0 : Int32), .inl (-1 : Int32)] s3 (fun r s5 => r = none ∧ (J M_T_holdsFor Q 29 [some (.inr (3, 0)), some (.inl x1), some (.inl x2), some (.inl x1), some (.inl (0 : Int32))] [] (m_up s5 3 10 (1 : Int32))))))))) : J M_T_holdsFor Q 0 [some (.inr (3, 0)), some (.inl x1), some (.inl x2), none, none] [] σ :=
  J_aload_n (i := 0) rfl rfl d_T_holdsFor_0 <|
  kT_60_v rfl rfl rfl (args := []) (h) d_T_holdsFor_1 (fun s1 h2 =>
  J_aload_n (i := 0) rfl rfl d_T_holdsFor_4 <|
  gT_18 rfl d_T_holdsFor_5 <|
  J_iconst (v := (-1 : Int32)) d_T_holdsFor_8 (by decide) <|
  kT_44_v rfl rfl rfl (args := [.inr (18, 0), .inl (-1 : Int32)]) (h2) d_T_holdsFor_9 (fun s3 h4 =>
  J_aload_n (i := 0) rfl rfl d_T_holdsFor_12 <|
  J_iconst (v := (0 : Int32)) d_T_holdsFor_13 (by decide) <|
  J_iconst (v := (0 : Int32)) d_T_holdsFor_14 (by decide) <|
  J_iconst (v := (-1 : Int32)) d_T_holdsFor_15 (by decide) <|
  kT_63_v rfl rfl rfl (args := [.inl (0 : Int32), .inl (0 : Int32), .inl (-1 : Int32)]) (h4) d_T_holdsFor_16 (fun s5 h6 =>
  J_aload_n (i := 0) rfl rfl d_T_holdsFor_19 <|
  J_iconst (v := (1 : Int32)) d_T_holdsFor_20 (by decide) <|
  pT_67 rfl (Or.inr rfl) d_T_holdsFor_21 <|
  J_iload_n (i := 1) rfl rfl d_T_holdsFor_24 <|
  J_istore_n (i := 3) (ls' := [some (.inr (3, 0)), some (.inl x1), some (.inl x2), some (.inl x1), none]) rfl rfl rfl rfl d_T_holdsFor_25 <|
  J_iconst (v := (0 : Int32)) d_T_holdsFor_26 (by decide) <|
  J_istore (i := 4) (ls' := [some (.inr (3, 0)), some (.inl x1), some (.inl x2), some (.inl x1), some (.inl (0 : Int32))]) rfl rfl rfl d_T_holdsFor_27 <|
  h6)))
theorem r_T_holdsFor_29 {Q : Option mV → mS → Prop} {σ : mS} {x2 x3 x4 : Int32} {u1 : Option mV} (h : (x2 ≤ x4 → (((σ 3 10) = 0 ∨ (σ 3 10) = 1) ∧ Q (some (.inl (σ 3 10))) σ)) ∧ (¬ x2 ≤ x4 → (∀ v8, v8 = ((x3 * (nI 1664525)) + (nI 1013904223)) → (MU M_T_doStep [.inr (3, 0), .inl (m_ushr v8 (1 : Int32))] σ (fun r s9 => r = none ∧ (MU M_T_lookAtNames [.inr (3, 0)] s9 (fun r s11 => r = none ∧ (J M_T_holdsFor Q 29 [some (.inr (3, 0)), u1, some (.inl x2), some (.inl v8), some (.inl (x4 + 1))] [] s11)))))))) : J M_T_holdsFor Q 29 [some (.inr (3, 0)), u1, some (.inl x2), some (.inl x3), some (.inl x4)] [] σ :=
  J_iload (i := 4) rfl d_T_holdsFor_29 <|
  J_iload_n (i := 2) rfl rfl d_T_holdsFor_31 <|
  J_icmp_ge (tgt := 60) d_T_holdsFor_32 (by decide) (fun c13 =>
  J_aload_n (i := 0) rfl rfl d_T_holdsFor_60 <|
  gT_67 rfl d_T_holdsFor_61 <|
  J_zret rfl (((h).1 c13)).1 d_T_holdsFor_64 (((h).1 c13)).2) (fun c13 =>
  J_iload_n (i := 3) rfl rfl d_T_holdsFor_35 <|
  J_ldc (v := (nI 1664525)) ldc_T_71 rfl d_T_holdsFor_36 <|
  J_imul d_T_holdsFor_38 <|
  J_ldc (v := (nI 1013904223)) ldc_T_72 rfl d_T_holdsFor_39 <|
  J_iadd d_T_holdsFor_41 <|
  J_namei (fun v8 ev8 =>
  J_istore_n (i := 3) (ls' := [some (.inr (3, 0)), u1, some (.inl x2), some (.inl v8), some (.inl x4)]) rfl rfl rfl rfl d_T_holdsFor_42 <|
  J_aload_n (i := 0) rfl rfl d_T_holdsFor_43 <|
  J_iload_n (i := 3) rfl rfl d_T_holdsFor_44 <|
  J_iconst (v := (1 : Int32)) d_T_holdsFor_45 (by decide) <|
  J_iushr d_T_holdsFor_46 <|
  kT_73_v rfl rfl rfl (args := [.inl (m_ushr v8 (1 : Int32))]) (((((h).2 c13)) v8 ev8)) d_T_holdsFor_47 (fun s9 h10 =>
  J_aload_n (i := 0) rfl rfl d_T_holdsFor_50 <|
  kT_77_v rfl rfl rfl (args := []) (h10) d_T_holdsFor_51 (fun s11 h12 =>
  J_iinc (i := 4) (v := (x4 + 1)) (ls' := [some (.inr (3, 0)), u1, some (.inl x2), some (.inl v8), some (.inl (x4 + 1))]) rfl rfl rfl rfl rfl d_T_holdsFor_54 <|
  J_goto (tgt := 29) d_T_holdsFor_57 (by decide) <|
  h12))))
theorem r_T_pushFrame_0 {Q : Option mV → mS → Prop} {σ : mS} {x1 x2 x3 : Int32} (h : ∀ v1, v1 = ((σ 3 12) * (nI 6)) → (MU M_A_fillR [.inr (19, 0), .inl v1, .inl (v1 + (nI 6)), .inl (-1 : Int32)] σ (fun r s2 => r = none ∧ (vp_in (s2 3 12) 10 ∧ (∀ t4, t4 = (m_up s2 20 (s2 3 12).toNatClampNeg x1) → (vp_in (t4 3 12) 10 ∧ (∀ t5, t5 = (m_up t4 21 (t4 3 12).toNatClampNeg x2) → (vp_in (t5 3 12) 10 ∧ (∀ t6, t6 = (m_up t5 22 (t5 3 12).toNatClampNeg x3) → (Q none (m_up t6 3 12 ((t6 3 12) + (1 : Int32))))))))))))) : J M_T_pushFrame Q 0 [some (.inr (3, 0)), some (.inl x1), some (.inl x2), some (.inl x3), none] [] σ :=
  J_aload_n (i := 0) rfl rfl d_T_pushFrame_0 <|
  gT_54 rfl d_T_pushFrame_1 <|
  J_bipush (v := (nI 6)) d_T_pushFrame_4 (by decide) <|
  J_imul d_T_pushFrame_6 <|
  J_namei (fun v1 ev1 =>
  J_istore (i := 4) (ls' := [some (.inr (3, 0)), some (.inl x1), some (.inl x2), some (.inl x3), some (.inl v1)]) rfl rfl rfl d_T_pushFrame_7 <|
  J_aload_n (i := 0) rfl rfl d_T_pushFrame_9 <|
  gT_21 rfl d_T_pushFrame_10 <|
  J_iload (i := 4) rfl d_T_pushFrame_13 <|
  J_iload (i := 4) rfl d_T_pushFrame_15 <|
  J_bipush (v := (nI 6)) d_T_pushFrame_17 (by decide) <|
  J_iadd d_T_pushFrame_19 <|
  J_iconst (v := (-1 : Int32)) d_T_pushFrame_20 (by decide) <|
  kT_80_v rfl rfl rfl (args := [.inr (19, 0), .inl v1, .inl (v1 + (nI 6)), .inl (-1 : Int32)]) (((h) v1 ev1)) d_T_pushFrame_21 (fun s2 h3 =>
  J_aload_n (i := 0) rfl rfl d_T_pushFrame_24 <|
  gT_24 rfl d_T_pushFrame_25 <|
  J_aload_n (i := 0) rfl rfl d_T_pushFrame_28 <|
  gT_54 rfl d_T_pushFrame_29 <|
  J_iload_n (i := 1) rfl rfl d_T_pushFrame_32 <|
  J_iast (h3).1 d_T_pushFrame_33 <|
  J_names (fun t4 et4 =>
  J_aload_n (i := 0) rfl rfl d_T_pushFrame_34 <|
  gT_27 rfl d_T_pushFrame_35 <|
  J_aload_n (i := 0) rfl rfl d_T_pushFrame_38 <|
  gT_54 rfl d_T_pushFrame_39 <|
  J_iload_n (i := 2) rfl rfl d_T_pushFrame_42 <|
  J_iast ((((h3).2) t4 et4)).1 d_T_pushFrame_43 <|
  J_names (fun t5 et5 =>
  J_aload_n (i := 0) rfl rfl d_T_pushFrame_44 <|
  gT_30 rfl d_T_pushFrame_45 <|
  J_aload_n (i := 0) rfl rfl d_T_pushFrame_48 <|
  gT_54 rfl d_T_pushFrame_49 <|
  J_iload_n (i := 3) rfl rfl d_T_pushFrame_52 <|
  J_iast (((((((h3).2) t4 et4)).2) t5 et5)).1 d_T_pushFrame_53 <|
  J_names (fun t6 et6 =>
  J_aload_n (i := 0) rfl rfl d_T_pushFrame_54 <|
  J_dup d_T_pushFrame_55 <|
  gT_54 rfl d_T_pushFrame_56 <|
  J_iconst (v := (1 : Int32)) d_T_pushFrame_59 (by decide) <|
  J_iadd d_T_pushFrame_60 <|
  pT_54 rfl d_T_pushFrame_61 <|
  J_vret rfl d_T_pushFrame_64 ((((((((((h3).2) t4 et4)).2) t5 et5)).2) t6 et6)))))))
theorem r_T_doStep_0 {Q : Option mV → mS → Prop} {σ : mS} {x1 : Int32} (h : ∀ v1, v1 = ((σ 3 12) - (1 : Int32)) → (vp_in v1 10 ∧ (∀ v2, v2 = (σ 20 v1.toNatClampNeg) → (vp_in v2 10 ∧ (∀ v3, v3 = (σ 11 v2.toNatClampNeg) → ((¬ (v3 + (1 : Int32)) = 0) ∧ (∀ v4, v4 = (m_rem x1 (v3 + (1 : Int32))) → ((v3 ≤ v4 → ((v1 ≤ (0 : Int32) → (Q none σ)) ∧ (¬ v1 ≤ (0 : Int32) → (∀ t5, t5 = (m_up σ 3 12 v1) → (vp_in v1 10 ∧ (vp_in ((v1 * (nI 6)) + (nI 5)) 60 ∧ (vp_in (((v1 - (1 : Int32)) * (nI 6)) + (t5 22 v1.toNatClampNeg)) 60 ∧ (Q none (m_up t5 19 (((v1 - (1 : Int32)) * (nI 6)) + (t5 22 v1.toNatClampNeg)).toNatClampNeg (t5 19 ((v1 * (nI 6)) + (nI 5)).toNatClampNeg)))))))))) ∧ (¬ v3 ≤ v4 → (MU M_P_statementOf [.inr (1, 0), .inl v2, .inl v4] σ (fun r s8 => ∃ n10, r = some (.inr (59, n10)) ∧ (MU M_T_doStatement [.inr (3, 0), .inr (59, n10), .inl (v1 * (nI 6))] s8 (fun r s11 => r = none ∧ (Q none s11)))))))))))))) : J M_T_doStep Q 0 [some (.inr (3, 0)), some (.inl x1), none, none, none, none] [] σ :=
  J_aload_n (i := 0) rfl rfl d_T_doStep_0 <|
  gT_54 rfl d_T_doStep_1 <|
  J_iconst (v := (1 : Int32)) d_T_doStep_4 (by decide) <|
  J_isub d_T_doStep_5 <|
  J_namei (fun v1 ev1 =>
  J_istore_n (i := 2) (ls' := [some (.inr (3, 0)), some (.inl x1), some (.inl v1), none, none, none]) rfl rfl rfl rfl d_T_doStep_6 <|
  J_aload_n (i := 0) rfl rfl d_T_doStep_7 <|
  gT_24 rfl d_T_doStep_8 <|
  J_iload_n (i := 2) rfl rfl d_T_doStep_11 <|
  J_iald (((h) v1 ev1)).1 d_T_doStep_12 <|
  J_namei (fun v2 ev2 =>
  J_istore_n (i := 3) (ls' := [some (.inr (3, 0)), some (.inl x1), some (.inl v1), some (.inl v2), none, none]) rfl rfl rfl rfl d_T_doStep_13 <|
  J_aload_n (i := 0) rfl rfl d_T_doStep_14 <|
  gT_36 rfl d_T_doStep_15 <|
  gT_83 rfl d_T_doStep_18 <|
  J_iload_n (i := 3) rfl rfl d_T_doStep_21 <|
  J_iald ((((((h) v1 ev1)).2) v2 ev2)).1 d_T_doStep_22 <|
  J_namei (fun v3 ev3 =>
  J_istore (i := 4) (ls' := [some (.inr (3, 0)), some (.inl x1), some (.inl v1), some (.inl v2), some (.inl v3), none]) rfl rfl rfl d_T_doStep_23 <|
  J_iload_n (i := 1) rfl rfl d_T_doStep_25 <|
  J_iload (i := 4) rfl d_T_doStep_26 <|
  J_iconst (v := (1 : Int32)) d_T_doStep_28 (by decide) <|
  J_iadd d_T_doStep_29 <|
  J_irem d_T_doStep_30 (((((((((h) v1 ev1)).2) v2 ev2)).2) v3 ev3)).1 <|
  J_namei (fun v4 ev4 =>
  J_istore (i := 5) (ls' := [some (.inr (3, 0)), some (.inl x1), some (.inl v1), some (.inl v2), some (.inl v3), some (.inl v4)]) rfl rfl rfl d_T_doStep_31 <|
  J_iload (i := 5) rfl d_T_doStep_33 <|
  J_iload (i := 4) rfl d_T_doStep_35 <|
  J_icmp_ge (tgt := 61) d_T_doStep_37 (by decide) (fun c13 =>
  J_iload_n (i := 2) rfl rfl d_T_doStep_61 <|
  J_if_le (tgt := 99) d_T_doStep_62 (by decide) (fun c7 =>
  J_vret rfl d_T_doStep_99 ((((((((((((((((h) v1 ev1)).2) v2 ev2)).2) v3 ev3)).2) v4 ev4)).1 c13)).1 c7))) (fun c7 =>
  J_aload_n (i := 0) rfl rfl d_T_doStep_65 <|
  J_iload_n (i := 2) rfl rfl d_T_doStep_66 <|
  pT_54 rfl d_T_doStep_67 <|
  J_names (fun t5 et5 =>
  J_aload_n (i := 0) rfl rfl d_T_doStep_70 <|
  gT_21 rfl d_T_doStep_71 <|
  J_iload_n (i := 2) rfl rfl d_T_doStep_74 <|
  J_iconst (v := (1 : Int32)) d_T_doStep_75 (by decide) <|
  J_isub d_T_doStep_76 <|
  J_bipush (v := (nI 6)) d_T_doStep_77 (by decide) <|
  J_imul d_T_doStep_79 <|
  J_aload_n (i := 0) rfl rfl d_T_doStep_80 <|
  gT_30 rfl d_T_doStep_81 <|
  J_iload_n (i := 2) rfl rfl d_T_doStep_84 <|
  J_iald ((((((((((((((((((h) v1 ev1)).2) v2 ev2)).2) v3 ev3)).2) v4 ev4)).1 c13)).2 c7)) t5 et5)).1 d_T_doStep_85 <|
  J_iadd d_T_doStep_86 <|
  J_aload_n (i := 0) rfl rfl d_T_doStep_87 <|
  gT_21 rfl d_T_doStep_88 <|
  J_iload_n (i := 2) rfl rfl d_T_doStep_91 <|
  J_bipush (v := (nI 6)) d_T_doStep_92 (by decide) <|
  J_imul d_T_doStep_94 <|
  J_iconst (v := (nI 5)) d_T_doStep_95 (by decide) <|
  J_iadd d_T_doStep_96 <|
  J_iald (((((((((((((((((((h) v1 ev1)).2) v2 ev2)).2) v3 ev3)).2) v4 ev4)).1 c13)).2 c7)) t5 et5)).2).1 d_T_doStep_97 <|
  J_iast ((((((((((((((((((((h) v1 ev1)).2) v2 ev2)).2) v3 ev3)).2) v4 ev4)).1 c13)).2 c7)) t5 et5)).2).2).1 d_T_doStep_98 <|
  J_vret rfl d_T_doStep_99 (((((((((((((((((((((h) v1 ev1)).2) v2 ev2)).2) v3 ev3)).2) v4 ev4)).1 c13)).2 c7)) t5 et5)).2).2).2)))) (fun c13 =>
  J_aload_n (i := 0) rfl rfl d_T_doStep_40 <|
  J_aload_n (i := 0) rfl rfl d_T_doStep_41 <|
  gT_36 rfl d_T_doStep_42 <|
  J_iload_n (i := 3) rfl rfl d_T_doStep_45 <|
  J_iload (i := 5) rfl d_T_doStep_46 <|
  kT_88_r rfl rfl rfl (args := [.inl v2, .inl v4]) ((((((((((((((h) v1 ev1)).2) v2 ev2)).2) v3 ev3)).2) v4 ev4)).2 c13)) d_T_doStep_48 (fun n10 s8 h9 =>
  J_iload_n (i := 2) rfl rfl d_T_doStep_51 <|
  J_bipush (v := (nI 6)) d_T_doStep_52 (by decide) <|
  J_imul d_T_doStep_54 <|
  kT_92_v rfl rfl rfl (args := [.inr (59, n10), .inl (v1 * (nI 6))]) (h9) d_T_doStep_55 (fun s11 h12 =>
  J_goto (tgt := 99) d_T_doStep_58 (by decide) <|
  J_vret rfl d_T_doStep_99 (h12))))))))
theorem r_T_doStatement_0 {Q : Option mV → mS → Prop} {σ : mS} {x2 : Int32} {n1 : Nat} (h : ((σ (59 + n1 % 60) 2) = (0 : Int32) → (MU M_T_makeObject [.inr (3, 0), .inr (59, n1), .inl x2] σ (fun r s1 => r = none ∧ (Q none s1)))) ∧ ((σ (59 + n1 % 60) 2) = (1 : Int32) → (vp_in (x2 + (σ (59 + n1 % 60) 4)) 60 ∧ (vp_in (x2 + (σ (59 + n1 % 60) 3)) 60 ∧ (Q none (m_up σ 19 (x2 + (σ (59 + n1 % 60) 3)).toNatClampNeg (σ 19 (x2 + (σ (59 + n1 % 60) 4)).toNatClampNeg)))))) ∧ ((σ (59 + n1 % 60) 2) = (nI 2) → (vp_in (x2 + (σ (59 + n1 % 60) 4)) 60 ∧ (MU M_T_readSlot [.inr (3, 0), .inl (x2 + (σ (59 + n1 % 60) 3)), .inl (σ 19 (x2 + (σ (59 + n1 % 60) 4)).toNatClampNeg), .inl (σ (59 + n1 % 60) 5)] σ (fun r s4 => r = none ∧ (Q none s4))))) ∧ ((σ (59 + n1 % 60) 2) = (nI 3) → (vp_in (x2 + (σ (59 + n1 % 60) 3)) 60 ∧ (vp_in (x2 + (σ (59 + n1 % 60) 4)) 60 ∧ (MU M_T_writeSlot [.inr (3, 0), .inl (σ 19 (x2 + (σ (59 + n1 % 60) 3)).toNatClampNeg), .inl (σ (59 + n1 % 60) 5), .inl (σ 19 (x2 + (σ (59 + n1 % 60) 4)).toNatClampNeg)] σ (fun r s6 => r = none ∧ (Q none s6)))))) ∧ ((σ (59 + n1 % 60) 2) = (nI 4) → (MU M_T_castObject [.inr (3, 0), .inr (59, n1), .inl x2] σ (fun r s8 => r = none ∧ (Q none s8)))) ∧ ((σ (59 + n1 % 60) 2) = (nI 5) → (vp_in (σ (59 + n1 % 60) 4) 4 ∧ (vp_in (x2 + (σ (59 + n1 % 60) 3)) 60 ∧ (Q none (m_up σ 19 (x2 + (σ (59 + n1 % 60) 3)).toNatClampNeg (σ 18 (σ (59 + n1 % 60) 4).toNatClampNeg)))))) ∧ ((σ (59 + n1 % 60) 2) = (nI 6) → (vp_in (x2 + (σ (59 + n1 % 60) 4)) 60 ∧ (vp_in (σ (59 + n1 % 60) 3) 4 ∧ (∀ t11, t11 = (m_up σ 18 (σ (59 + n1 % 60) 3).toNatClampNeg (σ 19 (x2 + (σ (59 + n1 % 60) 4)).toNatClampNeg)) → (vp_in (t11 (59 + n1 % 60) 3) 4 ∧ (MU M_T_lookAt [.inr (3, 0), .inl (t11 18 (t11 (59 + n1 % 60) 3).toNatClampNeg), .inl ((nI 1440) + (t11 (59 + n1 % 60) 3))] t11 (fun r s12 => r = none ∧ (Q none s12)))))))) ∧ ((σ (59 + n1 % 60) 2) = (nI 7) → (MU M_T_enterMethod [.inr (3, 0), .inr (59, n1), .inl x2] σ (fun r s14 => r = none ∧ (Q none s14)))) ∧ ((σ (59 + n1 % 60) 2) = (nI 8) → (vp_in (x2 + (σ (59 + n1 % 60) 4)) 60 ∧ (MU M_T_readSlot [.inr (3, 0), .inl (x2 + (σ (59 + n1 % 60) 3)), .inl (σ 19 (x2 + (σ (59 + n1 % 60) 4)).toNatClampNeg), .inl (nI 8)] σ (fun r s16 => r = none ∧ (Q none s16))))) ∧ (¬ (σ (59 + n1 % 60) 2) = (0 : Int32) → ¬ (σ (59 + n1 % 60) 2) = (1 : Int32) → ¬ (σ (59 + n1 % 60) 2) = (nI 2) → ¬ (σ (59 + n1 % 60) 2) = (nI 3) → ¬ (σ (59 + n1 % 60) 2) = (nI 4) → ¬ (σ (59 + n1 % 60) 2) = (nI 5) → ¬ (σ (59 + n1 % 60) 2) = (nI 6) → ¬ (σ (59 + n1 % 60) 2) = (nI 7) → ¬ (σ (59 + n1 % 60) 2) = (nI 8) → (vp_in (x2 + (σ (59 + n1 % 60) 3)) 60 ∧ (vp_in (x2 + (σ (59 + n1 % 60) 4)) 60 ∧ (MU M_T_writeSlot [.inr (3, 0), .inl (σ 19 (x2 + (σ (59 + n1 % 60) 3)).toNatClampNeg), .inl (nI 8), .inl (σ 19 (x2 + (σ (59 + n1 % 60) 4)).toNatClampNeg)] σ (fun r s18 => r = none ∧ (Q none s18))))))) : J M_T_doStatement Q 0 [some (.inr (3, 0)), some (.inr (59, n1)), some (.inl x2)] [] σ :=
  J_aload_n (i := 1) rfl rfl d_T_doStatement_0 <|
  gT_96 rfl d_T_doStatement_1 <|
  Classical.byCases (p := (σ (59 + n1 % 60) 2) = (0 : Int32)) (fun c20 => J_tabIn (tgt := 56) c20 d_T_doStatement_4 (by decide) (by decide) rfl (by decide) <|
  J_aload_n (i := 0) rfl rfl d_T_doStatement_56 <|
  J_aload_n (i := 1) rfl rfl d_T_doStatement_57 <|
  J_iload_n (i := 2) rfl rfl d_T_doStatement_58 <|
  kT_101_v rfl rfl rfl (args := [.inr (59, n1), .inl x2]) (((h).1 c20)) d_T_doStatement_59 (fun s1 h2 =>
  J_goto (tgt := 290) d_T_doStatement_62 (by decide) <|
  J_vret rfl d_T_doStatement_290 (h2))) <| fun c20_0 =>
  Classical.byCases (p := (σ (59 + n1 % 60) 2) = (1 : Int32)) (fun c20 => J_tabIn (tgt := 65) c20 d_T_doStatement_4 (by decide) (by decide) rfl (by decide) <|
  J_aload_n (i := 0) rfl rfl d_T_doStatement_65 <|
  gT_21 rfl d_T_doStatement_66 <|
  J_iload_n (i := 2) rfl rfl d_T_doStatement_69 <|
  J_aload_n (i := 1) rfl rfl d_T_doStatement_70 <|
  gT_104 rfl d_T_doStatement_71 <|
  J_iadd d_T_doStatement_74 <|
  J_aload_n (i := 0) rfl rfl d_T_doStatement_75 <|
  gT_21 rfl d_T_doStatement_76 <|
  J_iload_n (i := 2) rfl rfl d_T_doStatement_79 <|
  J_aload_n (i := 1) rfl rfl d_T_doStatement_80 <|
  gT_107 rfl d_T_doStatement_81 <|
  J_iadd d_T_doStatement_84 <|
  J_iald ((((h).2).1 c20)).1 d_T_doStatement_85 <|
  J_iast (((((h).2).1 c20)).2).1 d_T_doStatement_86 <|
  J_goto (tgt := 290) d_T_doStatement_87 (by decide) <|
  J_vret rfl d_T_doStatement_290 ((((((h).2).1 c20)).2).2)) <| fun c20_1 =>
  Classical.byCases (p := (σ (59 + n1 % 60) 2) = (nI 2)) (fun c20 => J_tabIn (tgt := 90) c20 d_T_doStatement_4 (by decide) (by decide) rfl (by decide) <|
  J_aload_n (i := 0) rfl rfl d_T_doStatement_90 <|
  J_iload_n (i := 2) rfl rfl d_T_doStatement_91 <|
  J_aload_n (i := 1) rfl rfl d_T_doStatement_92 <|
  gT_104 rfl d_T_doStatement_93 <|
  J_iadd d_T_doStatement_96 <|
  J_aload_n (i := 0) rfl rfl d_T_doStatement_97 <|
  gT_21 rfl d_T_doStatement_98 <|
  J_iload_n (i := 2) rfl rfl d_T_doStatement_101 <|
  J_aload_n (i := 1) rfl rfl d_T_doStatement_102 <|
  gT_107 rfl d_T_doStatement_103 <|
  J_iadd d_T_doStatement_106 <|
  J_iald (((((h).2).2).1 c20)).1 d_T_doStatement_107 <|
  J_aload_n (i := 1) rfl rfl d_T_doStatement_108 <|
  gT_110 rfl d_T_doStatement_109 <|
  kT_113_v rfl rfl rfl (args := [.inl (x2 + (σ (59 + n1 % 60) 3)), .inl (σ 19 (x2 + (σ (59 + n1 % 60) 4)).toNatClampNeg), .inl (σ (59 + n1 % 60) 5)]) ((((((h).2).2).1 c20)).2) d_T_doStatement_112 (fun s4 h5 =>
  J_goto (tgt := 290) d_T_doStatement_115 (by decide) <|
  J_vret rfl d_T_doStatement_290 (h5))) <| fun c20_2 =>
  Classical.byCases (p := (σ (59 + n1 % 60) 2) = (nI 3)) (fun c20 => J_tabIn (tgt := 118) c20 d_T_doStatement_4 (by decide) (by decide) rfl (by decide) <|
  J_aload_n (i := 0) rfl rfl d_T_doStatement_118 <|
  J_aload_n (i := 0) rfl rfl d_T_doStatement_119 <|
  gT_21 rfl d_T_doStatement_120 <|
  J_iload_n (i := 2) rfl rfl d_T_doStatement_123 <|
  J_aload_n (i := 1) rfl rfl d_T_doStatement_124 <|
  gT_104 rfl d_T_doStatement_125 <|
  J_iadd d_T_doStatement_128 <|
  J_iald ((((((h).2).2).2).1 c20)).1 d_T_doStatement_129 <|
  J_aload_n (i := 1) rfl rfl d_T_doStatement_130 <|
  gT_110 rfl d_T_doStatement_131 <|
  J_aload_n (i := 0) rfl rfl d_T_doStatement_134 <|
  gT_21 rfl d_T_doStatement_135 <|
  J_iload_n (i := 2) rfl rfl d_T_doStatement_138 <|
  J_aload_n (i := 1) rfl rfl d_T_doStatement_139 <|
  gT_107 rfl d_T_doStatement_140 <|
  J_iadd d_T_doStatement_143 <|
  J_iald (((((((h).2).2).2).1 c20)).2).1 d_T_doStatement_144 <|
  kT_116_v rfl rfl rfl (args := [.inl (σ 19 (x2 + (σ (59 + n1 % 60) 3)).toNatClampNeg), .inl (σ (59 + n1 % 60) 5), .inl (σ 19 (x2 + (σ (59 + n1 % 60) 4)).toNatClampNeg)]) ((((((((h).2).2).2).1 c20)).2).2) d_T_doStatement_145 (fun s6 h7 =>
  J_goto (tgt := 290) d_T_doStatement_148 (by decide) <|
  J_vret rfl d_T_doStatement_290 (h7))) <| fun c20_3 =>
  Classical.byCases (p := (σ (59 + n1 % 60) 2) = (nI 4)) (fun c20 => J_tabIn (tgt := 151) c20 d_T_doStatement_4 (by decide) (by decide) rfl (by decide) <|
  J_aload_n (i := 0) rfl rfl d_T_doStatement_151 <|
  J_aload_n (i := 1) rfl rfl d_T_doStatement_152 <|
  J_iload_n (i := 2) rfl rfl d_T_doStatement_153 <|
  kT_119_v rfl rfl rfl (args := [.inr (59, n1), .inl x2]) (((((((h).2).2).2).2).1 c20)) d_T_doStatement_154 (fun s8 h9 =>
  J_goto (tgt := 290) d_T_doStatement_157 (by decide) <|
  J_vret rfl d_T_doStatement_290 (h9))) <| fun c20_4 =>
  Classical.byCases (p := (σ (59 + n1 % 60) 2) = (nI 5)) (fun c20 => J_tabIn (tgt := 160) c20 d_T_doStatement_4 (by decide) (by decide) rfl (by decide) <|
  J_aload_n (i := 0) rfl rfl d_T_doStatement_160 <|
  gT_21 rfl d_T_doStatement_161 <|
  J_iload_n (i := 2) rfl rfl d_T_doStatement_164 <|
  J_aload_n (i := 1) rfl rfl d_T_doStatement_165 <|
  gT_104 rfl d_T_doStatement_166 <|
  J_iadd d_T_doStatement_169 <|
  J_aload_n (i := 0) rfl rfl d_T_doStatement_170 <|
  gT_18 rfl d_T_doStatement_171 <|
  J_aload_n (i := 1) rfl rfl d_T_doStatement_174 <|
  gT_107 rfl d_T_doStatement_175 <|
  J_iald ((((((((h).2).2).2).2).2).1 c20)).1 d_T_doStatement_178 <|
  J_iast (((((((((h).2).2).2).2).2).1 c20)).2).1 d_T_doStatement_179 <|
  J_goto (tgt := 290) d_T_doStatement_180 (by decide) <|
  J_vret rfl d_T_doStatement_290 ((((((((((h).2).2).2).2).2).1 c20)).2).2)) <| fun c20_5 =>
  Classical.byCases (p := (σ (59 + n1 % 60) 2) = (nI 6)) (fun c20 => J_tabIn (tgt := 183) c20 d_T_doStatement_4 (by decide) (by decide) rfl (by decide) <|
  J_aload_n (i := 0) rfl rfl d_T_doStatement_183 <|
  gT_18 rfl d_T_doStatement_184 <|
  J_aload_n (i := 1) rfl rfl d_T_doStatement_187 <|
  gT_104 rfl d_T_doStatement_188 <|
  J_aload_n (i := 0) rfl rfl d_T_doStatement_191 <|
  gT_21 rfl d_T_doStatement_192 <|
  J_iload_n (i := 2) rfl rfl d_T_doStatement_195 <|
  J_aload_n (i := 1) rfl rfl d_T_doStatement_196 <|
  gT_107 rfl d_T_doStatement_197 <|
  J_iadd d_T_doStatement_200 <|
  J_iald (((((((((h).2).2).2).2).2).2).1 c20)).1 d_T_doStatement_201 <|
  J_iast ((((((((((h).2).2).2).2).2).2).1 c20)).2).1 d_T_doStatement_202 <|
  J_names (fun t11 et11 =>
  J_aload_n (i := 0) rfl rfl d_T_doStatement_203 <|
  J_aload_n (i := 0) rfl rfl d_T_doStatement_204 <|
  gT_18 rfl d_T_doStatement_205 <|
  J_aload_n (i := 1) rfl rfl d_T_doStatement_208 <|
  gT_104 rfl d_T_doStatement_209 <|
  J_iald (((((((((((((h).2).2).2).2).2).2).1 c20)).2).2) t11 et11)).1 d_T_doStatement_212 <|
  J_sipush (v := (nI 1440)) d_T_doStatement_213 (by decide) <|
  J_aload_n (i := 1) rfl rfl d_T_doStatement_216 <|
  gT_104 rfl d_T_doStatement_217 <|
  J_iadd d_T_doStatement_220 <|
  kT_122_v rfl rfl rfl (args := [.inl (t11 18 (t11 (59 + n1 % 60) 3).toNatClampNeg), .inl ((nI 1440) + (t11 (59 + n1 % 60) 3))]) ((((((((((((((h).2).2).2).2).2).2).1 c20)).2).2) t11 et11)).2) d_T_doStatement_221 (fun s12 h13 =>
  J_goto (tgt := 290) d_T_doStatement_224 (by decide) <|
  J_vret rfl d_T_doStatement_290 (h13)))) <| fun c20_6 =>
  Classical.byCases (p := (σ (59 + n1 % 60) 2) = (nI 7)) (fun c20 => J_tabIn (tgt := 227) c20 d_T_doStatement_4 (by decide) (by decide) rfl (by decide) <|
  J_aload_n (i := 0) rfl rfl d_T_doStatement_227 <|
  J_aload_n (i := 1) rfl rfl d_T_doStatement_228 <|
  J_iload_n (i := 2) rfl rfl d_T_doStatement_229 <|
  kT_126_v rfl rfl rfl (args := [.inr (59, n1), .inl x2]) ((((((((((h).2).2).2).2).2).2).2).1 c20)) d_T_doStatement_230 (fun s14 h15 =>
  J_goto (tgt := 290) d_T_doStatement_233 (by decide) <|
  J_vret rfl d_T_doStatement_290 (h15))) <| fun c20_7 =>
  Classical.byCases (p := (σ (59 + n1 % 60) 2) = (nI 8)) (fun c20 => J_tabIn (tgt := 236) c20 d_T_doStatement_4 (by decide) (by decide) rfl (by decide) <|
  J_aload_n (i := 0) rfl rfl d_T_doStatement_236 <|
  J_iload_n (i := 2) rfl rfl d_T_doStatement_237 <|
  J_aload_n (i := 1) rfl rfl d_T_doStatement_238 <|
  gT_104 rfl d_T_doStatement_239 <|
  J_iadd d_T_doStatement_242 <|
  J_aload_n (i := 0) rfl rfl d_T_doStatement_243 <|
  gT_21 rfl d_T_doStatement_244 <|
  J_iload_n (i := 2) rfl rfl d_T_doStatement_247 <|
  J_aload_n (i := 1) rfl rfl d_T_doStatement_248 <|
  gT_107 rfl d_T_doStatement_249 <|
  J_iadd d_T_doStatement_252 <|
  J_iald (((((((((((h).2).2).2).2).2).2).2).2).1 c20)).1 d_T_doStatement_253 <|
  J_bipush (v := (nI 8)) d_T_doStatement_254 (by decide) <|
  kT_113_v rfl rfl rfl (args := [.inl (x2 + (σ (59 + n1 % 60) 3)), .inl (σ 19 (x2 + (σ (59 + n1 % 60) 4)).toNatClampNeg), .inl (nI 8)]) ((((((((((((h).2).2).2).2).2).2).2).2).1 c20)).2) d_T_doStatement_256 (fun s16 h17 =>
  J_goto (tgt := 290) d_T_doStatement_259 (by decide) <|
  J_vret rfl d_T_doStatement_290 (h17))) <| fun c20_8 =>
  J_tabOut (x := (σ (59 + n1 % 60) 2)) (tgt := 262) (by have q0 := lv_neT (a := 0) c20_0 (by decide); have q1 := lv_neT (a := 1) c20_1 (by decide); have q2 := lv_neT (a := 2) c20_2 (by decide); have q3 := lv_neT (a := 3) c20_3 (by decide); have q4 := lv_neT (a := 4) c20_4 (by decide); have q5 := lv_neT (a := 5) c20_5 (by decide); have q6 := lv_neT (a := 6) c20_6 (by decide); have q7 := lv_neT (a := 7) c20_7 (by decide); have q8 := lv_neT (a := 8) c20_8 (by decide); omega) d_T_doStatement_4 (by decide) <|
  J_aload_n (i := 0) rfl rfl d_T_doStatement_262 <|
  J_aload_n (i := 0) rfl rfl d_T_doStatement_263 <|
  gT_21 rfl d_T_doStatement_264 <|
  J_iload_n (i := 2) rfl rfl d_T_doStatement_267 <|
  J_aload_n (i := 1) rfl rfl d_T_doStatement_268 <|
  gT_104 rfl d_T_doStatement_269 <|
  J_iadd d_T_doStatement_272 <|
  J_iald ((((((((((((h).2).2).2).2).2).2).2).2).2) c20_0 c20_1 c20_2 c20_3 c20_4 c20_5 c20_6 c20_7 c20_8)).1 d_T_doStatement_273 <|
  J_bipush (v := (nI 8)) d_T_doStatement_274 (by decide) <|
  J_aload_n (i := 0) rfl rfl d_T_doStatement_276 <|
  gT_21 rfl d_T_doStatement_277 <|
  J_iload_n (i := 2) rfl rfl d_T_doStatement_280 <|
  J_aload_n (i := 1) rfl rfl d_T_doStatement_281 <|
  gT_107 rfl d_T_doStatement_282 <|
  J_iadd d_T_doStatement_285 <|
  J_iald (((((((((((((h).2).2).2).2).2).2).2).2).2) c20_0 c20_1 c20_2 c20_3 c20_4 c20_5 c20_6 c20_7 c20_8)).2).1 d_T_doStatement_286 <|
  kT_116_v rfl rfl rfl (args := [.inl (σ 19 (x2 + (σ (59 + n1 % 60) 3)).toNatClampNeg), .inl (nI 8), .inl (σ 19 (x2 + (σ (59 + n1 % 60) 4)).toNatClampNeg)]) ((((((((((((((h).2).2).2).2).2).2).2).2).2) c20_0 c20_1 c20_2 c20_3 c20_4 c20_5 c20_6 c20_7 c20_8)).2).2) d_T_doStatement_287 (fun s18 h19 =>
  J_vret rfl d_T_doStatement_290 (h19))
theorem r_T_makeObject_0 {Q : Option mV → mS → Prop} {σ : mS} {x2 : Int32} {n1 : Nat} (h : ((σ 3 11) < (nI 30) → (vp_in (σ 3 11) 30 ∧ (∀ t1, t1 = (m_up σ 16 (σ 3 11).toNatClampNeg (σ (59 + n1 % 60) 1)) → (MU M_A_fillR [.inr (17, 0), .inl ((t1 3 11) * (nI 9)), .inl (((t1 3 11) * (nI 9)) + (nI 9)), .inl (-1 : Int32)] t1 (fun r s2 => r = none ∧ (vp_in (x2 + (s2 (59 + n1 % 60) 3)) 60 ∧ (∀ t4, t4 = (m_up s2 19 (x2 + (s2 (59 + n1 % 60) 3)).toNatClampNeg (s2 3 11)) → (Q none (m_up t4 3 11 ((t4 3 11) + (1 : Int32))))))))))) ∧ (¬ (σ 3 11) < (nI 30) → (Q none σ))) : J M_T_makeObject Q 0 [some (.inr (3, 0)), some (.inr (59, n1)), some (.inl x2)] [] σ :=
  J_aload_n (i := 0) rfl rfl d_T_makeObject_0 <|
  gT_50 rfl d_T_makeObject_1 <|
  J_bipush (v := (nI 30)) d_T_makeObject_4 (by decide) <|
  J_icmp_lt (tgt := 10) d_T_makeObject_6 (by decide) (fun c6 =>
  J_aload_n (i := 0) rfl rfl d_T_makeObject_10 <|
  gT_9 rfl d_T_makeObject_11 <|
  J_aload_n (i := 0) rfl rfl d_T_makeObject_14 <|
  gT_50 rfl d_T_makeObject_15 <|
  J_aload_n (i := 1) rfl rfl d_T_makeObject_18 <|
  gT_129 rfl d_T_makeObject_19 <|
  J_iast (((h).1 c6)).1 d_T_makeObject_22 <|
  J_names (fun t1 et1 =>
  J_aload_n (i := 0) rfl rfl d_T_makeObject_23 <|
  gT_15 rfl d_T_makeObject_24 <|
  J_aload_n (i := 0) rfl rfl d_T_makeObject_27 <|
  gT_50 rfl d_T_makeObject_28 <|
  J_bipush (v := (nI 9)) d_T_makeObject_31 (by decide) <|
  J_imul d_T_makeObject_33 <|
  J_aload_n (i := 0) rfl rfl d_T_makeObject_34 <|
  gT_50 rfl d_T_makeObject_35 <|
  J_bipush (v := (nI 9)) d_T_makeObject_38 (by decide) <|
  J_imul d_T_makeObject_40 <|
  J_bipush (v := (nI 9)) d_T_makeObject_41 (by decide) <|
  J_iadd d_T_makeObject_43 <|
  J_iconst (v := (-1 : Int32)) d_T_makeObject_44 (by decide) <|
  kT_80_v rfl rfl rfl (args := [.inr (17, 0), .inl ((t1 3 11) * (nI 9)), .inl (((t1 3 11) * (nI 9)) + (nI 9)), .inl (-1 : Int32)]) ((((((h).1 c6)).2) t1 et1)) d_T_makeObject_45 (fun s2 h3 =>
  J_aload_n (i := 0) rfl rfl d_T_makeObject_48 <|
  gT_21 rfl d_T_makeObject_49 <|
  J_iload_n (i := 2) rfl rfl d_T_makeObject_52 <|
  J_aload_n (i := 1) rfl rfl d_T_makeObject_53 <|
  gT_104 rfl d_T_makeObject_54 <|
  J_iadd d_T_makeObject_57 <|
  J_aload_n (i := 0) rfl rfl d_T_makeObject_58 <|
  gT_50 rfl d_T_makeObject_59 <|
  J_iast (h3).1 d_T_makeObject_62 <|
  J_names (fun t4 et4 =>
  J_aload_n (i := 0) rfl rfl d_T_makeObject_63 <|
  J_dup d_T_makeObject_64 <|
  gT_50 rfl d_T_makeObject_65 <|
  J_iconst (v := (1 : Int32)) d_T_makeObject_68 (by decide) <|
  J_iadd d_T_makeObject_69 <|
  pT_50 rfl d_T_makeObject_70 <|
  J_vret rfl d_T_makeObject_73 ((((h3).2) t4 et4)))))) (fun c6 =>
  J_vret rfl d_T_makeObject_9 (((h).2 c6)))
theorem r_T_castObject_0 {Q : Option mV → mS → Prop} {σ : mS} {x2 : Int32} {n1 : Nat} (h : vp_in (x2 + (σ (59 + n1 % 60) 4)) 60 ∧ (∀ v1, v1 = (σ 19 (x2 + (σ (59 + n1 % 60) 4)).toNatClampNeg) → ((v1 = (-1 : Int32) → (vp_in (x2 + (σ (59 + n1 % 60) 3)) 60 ∧ (Q none (m_up σ 19 (x2 + (σ (59 + n1 % 60) 3)).toNatClampNeg v1)))) ∧ (¬ v1 = (-1 : Int32) → (vp_in (σ (59 + n1 % 60) 5) 8 ∧ (vp_in v1 30 ∧ (MU M_O_hasBit [.inl (σ 6 (σ (59 + n1 % 60) 5).toNatClampNeg), .inl (σ 16 v1.toNatClampNeg)] σ (fun r s3 => ∃ r5, r = some (.inl r5) ∧ ((r5 = (0 : Int32) → (Q none s3)) ∧ (¬ r5 = (0 : Int32) → (vp_in (x2 + (s3 (59 + n1 % 60) 3)) 60 ∧ (Q none (m_up s3 19 (x2 + (s3 (59 + n1 % 60) 3)).toNatClampNeg v1))))))))))))) : J M_T_castObject Q 0 [some (.inr (3, 0)), some (.inr (59, n1)), some (.inl x2), none] [] σ :=
  J_aload_n (i := 0) rfl rfl d_T_castObject_0 <|
  gT_21 rfl d_T_castObject_1 <|
  J_iload_n (i := 2) rfl rfl d_T_castObject_4 <|
  J_aload_n (i := 1) rfl rfl d_T_castObject_5 <|
  gT_107 rfl d_T_castObject_6 <|
  J_iadd d_T_castObject_9 <|
  J_iald (h).1 d_T_castObject_10 <|
  J_namei (fun v1 ev1 =>
  J_istore_n (i := 3) (ls' := [some (.inr (3, 0)), some (.inr (59, n1)), some (.inl x2), some (.inl v1)]) rfl rfl rfl rfl d_T_castObject_11 <|
  J_iload_n (i := 3) rfl rfl d_T_castObject_12 <|
  J_iconst (v := (-1 : Int32)) d_T_castObject_13 (by decide) <|
  J_icmp_eq (tgt := 41) d_T_castObject_14 (by decide) (fun c8 =>
  J_aload_n (i := 0) rfl rfl d_T_castObject_41 <|
  gT_21 rfl d_T_castObject_42 <|
  J_iload_n (i := 2) rfl rfl d_T_castObject_45 <|
  J_aload_n (i := 1) rfl rfl d_T_castObject_46 <|
  gT_104 rfl d_T_castObject_47 <|
  J_iadd d_T_castObject_50 <|
  J_iload_n (i := 3) rfl rfl d_T_castObject_51 <|
  J_iast ((((((h).2) v1 ev1)).1 c8)).1 d_T_castObject_52 <|
  J_vret rfl d_T_castObject_53 (((((((h).2) v1 ev1)).1 c8)).2)) (fun c8 =>
  J_aload_n (i := 0) rfl rfl d_T_castObject_17 <|
  gT_36 rfl d_T_castObject_18 <|
  gT_132 rfl d_T_castObject_21 <|
  J_aload_n (i := 1) rfl rfl d_T_castObject_24 <|
  gT_110 rfl d_T_castObject_25 <|
  J_iald ((((((h).2) v1 ev1)).2 c8)).1 d_T_castObject_28 <|
  J_aload_n (i := 0) rfl rfl d_T_castObject_29 <|
  gT_9 rfl d_T_castObject_30 <|
  J_iload_n (i := 3) rfl rfl d_T_castObject_33 <|
  J_iald (((((((h).2) v1 ev1)).2 c8)).2).1 d_T_castObject_34 <|
  kT_135_i rfl rfl rfl (args := [.inl (σ 6 (σ (59 + n1 % 60) 5).toNatClampNeg), .inl (σ 16 v1.toNatClampNeg)]) ((((((((h).2) v1 ev1)).2 c8)).2).2) d_T_castObject_35 (fun r5 s3 h4 =>
  J_if_eq (tgt := 53) d_T_castObject_38 (by decide) (fun c7 =>
  J_vret rfl d_T_castObject_53 (((h4).1 c7))) (fun c7 =>
  J_aload_n (i := 0) rfl rfl d_T_castObject_41 <|
  gT_21 rfl d_T_castObject_42 <|
  J_iload_n (i := 2) rfl rfl d_T_castObject_45 <|
  J_aload_n (i := 1) rfl rfl d_T_castObject_46 <|
  gT_104 rfl d_T_castObject_47 <|
  J_iadd d_T_castObject_50 <|
  J_iload_n (i := 3) rfl rfl d_T_castObject_51 <|
  J_iast (((h4).2 c7)).1 d_T_castObject_52 <|
  J_vret rfl d_T_castObject_53 ((((h4).2 c7)).2)))))
theorem r_T_hasSlot_0 {Q : Option mV → mS → Prop} {σ : mS} {x1 x2 : Int32} (h : (x1 = (-1 : Int32) → (Q (some (.inl (0 : Int32))) σ)) ∧ (¬ x1 = (-1 : Int32) → (MU M_P_sitesWith [.inr (1, 0), .inl x2] σ (fun r s1 => ∃ r3, r = some (.inl r3) ∧ (vp_in x1 30 ∧ (MU M_O_hasBit [.inl r3, .inl (s1 16 x1.toNatClampNeg)] s1 (fun r s4 => ∃ r6, r = some (.inl r6) ∧ ((r6 = (0 : Int32) → (Q (some (.inl (0 : Int32))) s4)) ∧ (¬ r6 = (0 : Int32) → (Q (some (.inl (1 : Int32))) s4)))))))))) : J M_T_hasSlot Q 0 [some (.inr (3, 0)), some (.inl x1), some (.inl x2)] [] σ :=
  J_iload_n (i := 1) rfl rfl d_T_hasSlot_0 <|
  J_iconst (v := (-1 : Int32)) d_T_hasSlot_1 (by decide) <|
  J_icmp_eq (tgt := 29) d_T_hasSlot_2 (by decide) (fun c8 =>
  J_iconst (v := (0 : Int32)) d_T_hasSlot_29 (by decide) <|
  J_zret rfl (Or.inl rfl) d_T_hasSlot_30 (((h).1 c8))) (fun c8 =>
  J_aload_n (i := 0) rfl rfl d_T_hasSlot_5 <|
  gT_36 rfl d_T_hasSlot_6 <|
  J_iload_n (i := 2) rfl rfl d_T_hasSlot_9 <|
  kT_139_i rfl rfl rfl (args := [.inl x2]) (((h).2 c8)) d_T_hasSlot_10 (fun r3 s1 h2 =>
  J_aload_n (i := 0) rfl rfl d_T_hasSlot_13 <|
  gT_9 rfl d_T_hasSlot_14 <|
  J_iload_n (i := 1) rfl rfl d_T_hasSlot_17 <|
  J_iald (h2).1 d_T_hasSlot_18 <|
  kT_135_i rfl rfl rfl (args := [.inl r3, .inl (s1 16 x1.toNatClampNeg)]) ((h2).2) d_T_hasSlot_19 (fun r6 s4 h5 =>
  J_if_eq (tgt := 29) d_T_hasSlot_22 (by decide) (fun c7 =>
  J_iconst (v := (0 : Int32)) d_T_hasSlot_29 (by decide) <|
  J_zret rfl (Or.inl rfl) d_T_hasSlot_30 (((h5).1 c7))) (fun c7 =>
  J_iconst (v := (1 : Int32)) d_T_hasSlot_25 (by decide) <|
  J_goto (tgt := 30) d_T_hasSlot_26 (by decide) <|
  J_zret rfl (Or.inr rfl) d_T_hasSlot_30 (((h5).2 c7))))))
theorem r_T_readSlot_0 {Q : Option mV → mS → Prop} {σ : mS} {x1 x2 x3 : Int32} (h : MU M_T_hasSlot [.inr (3, 0), .inl x2, .inl x3] σ (fun r s1 => ∃ r3, r = some (.inl r3) ∧ ((r3 = (0 : Int32) → (Q none s1)) ∧ (¬ r3 = (0 : Int32) → (vp_in ((x2 * (nI 9)) + x3) 270 ∧ (vp_in x1 60 ∧ (Q none (m_up s1 19 x1.toNatClampNeg (s1 17 ((x2 * (nI 9)) + x3).toNatClampNeg))))))))) : J M_T_readSlot Q 0 [some (.inr (3, 0)), some (.inl x1), some (.inl x2), some (.inl x3)] [] σ :=
  J_aload_n (i := 0) rfl rfl d_T_readSlot_0 <|
  J_iload_n (i := 2) rfl rfl d_T_readSlot_1 <|
  J_iload_n (i := 3) rfl rfl d_T_readSlot_2 <|
  kT_143_i rfl rfl rfl (args := [.inl x2, .inl x3]) (h) d_T_readSlot_3 (fun r3 s1 h2 =>
  J_if_eq (tgt := 26) d_T_readSlot_6 (by decide) (fun c5 =>
  J_vret rfl d_T_readSlot_26 (((h2).1 c5))) (fun c5 =>
  J_aload_n (i := 0) rfl rfl d_T_readSlot_9 <|
  gT_21 rfl d_T_readSlot_10 <|
  J_iload_n (i := 1) rfl rfl d_T_readSlot_13 <|
  J_aload_n (i := 0) rfl rfl d_T_readSlot_14 <|
  gT_15 rfl d_T_readSlot_15 <|
  J_iload_n (i := 2) rfl rfl d_T_readSlot_18 <|
  J_bipush (v := (nI 9)) d_T_readSlot_19 (by decide) <|
  J_imul d_T_readSlot_21 <|
  J_iload_n (i := 3) rfl rfl d_T_readSlot_22 <|
  J_iadd d_T_readSlot_23 <|
  J_iald (((h2).2 c5)).1 d_T_readSlot_24 <|
  J_iast ((((h2).2 c5)).2).1 d_T_readSlot_25 <|
  J_vret rfl d_T_readSlot_26 (((((h2).2 c5)).2).2)))
theorem r_T_writeSlot_0 {Q : Option mV → mS → Prop} {σ : mS} {x1 x2 x3 : Int32} (h : MU M_T_hasSlot [.inr (3, 0), .inl x1, .inl x2] σ (fun r s1 => ∃ r3, r = some (.inl r3) ∧ ((r3 = (0 : Int32) → (Q none s1)) ∧ (¬ r3 = (0 : Int32) → (vp_in ((x1 * (nI 9)) + x2) 270 ∧ (∀ t4, t4 = (m_up s1 17 ((x1 * (nI 9)) + x2).toNatClampNeg x3) → (vp_in x1 30 ∧ (MU M_O_slotPlace [.inl (t4 16 x1.toNatClampNeg), .inl x2] t4 (fun r s5 => ∃ r7, r = some (.inl r7) ∧ (MU M_T_lookAt [.inr (3, 0), .inl x3, .inl r7] s5 (fun r s8 => r = none ∧ (Q none s8)))))))))))) : J M_T_writeSlot Q 0 [some (.inr (3, 0)), some (.inl x1), some (.inl x2), some (.inl x3)] [] σ :=
  J_aload_n (i := 0) rfl rfl d_T_writeSlot_0 <|
  J_iload_n (i := 1) rfl rfl d_T_writeSlot_1 <|
  J_iload_n (i := 2) rfl rfl d_T_writeSlot_2 <|
  kT_143_i rfl rfl rfl (args := [.inl x1, .inl x2]) (h) d_T_writeSlot_3 (fun r3 s1 h2 =>
  J_if_eq (tgt := 36) d_T_writeSlot_6 (by decide) (fun c10 =>
  J_vret rfl d_T_writeSlot_36 (((h2).1 c10))) (fun c10 =>
  J_aload_n (i := 0) rfl rfl d_T_writeSlot_9 <|
  gT_15 rfl d_T_writeSlot_10 <|
  J_iload_n (i := 1) rfl rfl d_T_writeSlot_13 <|
  J_bipush (v := (nI 9)) d_T_writeSlot_14 (by decide) <|
  J_imul d_T_writeSlot_16 <|
  J_iload_n (i := 2) rfl rfl d_T_writeSlot_17 <|
  J_iadd d_T_writeSlot_18 <|
  J_iload_n (i := 3) rfl rfl d_T_writeSlot_19 <|
  J_iast (((h2).2 c10)).1 d_T_writeSlot_20 <|
  J_names (fun t4 et4 =>
  J_aload_n (i := 0) rfl rfl d_T_writeSlot_21 <|
  J_iload_n (i := 3) rfl rfl d_T_writeSlot_22 <|
  J_aload_n (i := 0) rfl rfl d_T_writeSlot_23 <|
  gT_9 rfl d_T_writeSlot_24 <|
  J_iload_n (i := 1) rfl rfl d_T_writeSlot_27 <|
  J_iald ((((((h2).2 c10)).2) t4 et4)).1 d_T_writeSlot_28 <|
  J_iload_n (i := 2) rfl rfl d_T_writeSlot_29 <|
  kT_146_i rfl rfl rfl (args := [.inl (t4 16 x1.toNatClampNeg), .inl x2]) (((((((h2).2 c10)).2) t4 et4)).2) d_T_writeSlot_30 (fun r7 s5 h6 =>
  kT_122_v rfl rfl rfl (args := [.inl x3, .inl r7]) (h6) d_T_writeSlot_33 (fun s8 h9 =>
  J_vret rfl d_T_writeSlot_36 (h9))))))
theorem r_T_enterMethod_0 {Q : Option mV → mS → Prop} {σ : mS} {x2 : Int32} {n1 : Nat} (h : vp_in (x2 + (σ (59 + n1 % 60) 4)) 60 ∧ (∀ v1, v1 = (σ 19 (x2 + (σ (59 + n1 % 60) 4)).toNatClampNeg) → ((v1 = (-1 : Int32) → (Q none σ)) ∧ (¬ v1 = (-1 : Int32) → (((σ 3 12) < (nI 10) → (vp_in v1 30 ∧ (∀ v2, v2 = (σ 16 v1.toNatClampNeg) → (MU M_P_methodFound [.inr (1, 0), .inl v2, .inl (σ (59 + n1 % 60) 5)] σ (fun r s3 => ∃ r5, r = some (.inl r5) ∧ ((¬ r5 = (-1 : Int32) → (∀ v6, v6 = ((s3 3 12) * (nI 6)) → (MU M_S_contextOf [.inr (2, 0), .inl v2] s3 (fun r s7 => ∃ r9, r = some (.inl r9) ∧ (MU M_T_pushFrame [.inr (3, 0), .inl r5, .inl r9, .inl (s7 (59 + n1 % 60) 3)] s7 (fun r s10 => r = none ∧ (vp_in (v6 + (0 : Int32)) 60 ∧ (∀ t12, t12 = (m_up s10 19 (v6 + (0 : Int32)).toNatClampNeg v1) → (vp_in (x2 + (t12 (59 + n1 % 60) 6)) 60 ∧ (vp_in (v6 + (1 : Int32)) 60 ∧ (∀ t13, t13 = (m_up t12 19 (v6 + (1 : Int32)).toNatClampNeg (t12 19 (x2 + (t12 (59 + n1 % 60) 6)).toNatClampNeg)) → (vp_in (x2 + (t13 (59 + n1 % 60) 7)) 60 ∧ (vp_in (v6 + (nI 2)) 60 ∧ (∀ t14, t14 = (m_up t13 19 (v6 + (nI 2)).toNatClampNeg (t13 19 (x2 + (t13 (59 + n1 % 60) 7)).toNatClampNeg)) → (Q none (m_up t14 3 13 ((t14 3 13) + (1 : Int32)))))))))))))))))) ∧ (r5 = (-1 : Int32) → (Q none s3)))))))) ∧ (¬ (σ 3 12) < (nI 10) → (Q none σ))))))) : J M_T_enterMethod Q 0 [some (.inr (3, 0)), some (.inr (59, n1)), some (.inl x2), none, none, none, none] [] σ :=
  J_aload_n (i := 0) rfl rfl d_T_enterMethod_0 <|
  gT_21 rfl d_T_enterMethod_1 <|
  J_iload_n (i := 2) rfl rfl d_T_enterMethod_4 <|
  J_aload_n (i := 1) rfl rfl d_T_enterMethod_5 <|
  gT_107 rfl d_T_enterMethod_6 <|
  J_iadd d_T_enterMethod_9 <|
  J_iald (h).1 d_T_enterMethod_10 <|
  J_namei (fun v1 ev1 =>
  J_istore_n (i := 3) (ls' := [some (.inr (3, 0)), some (.inr (59, n1)), some (.inl x2), some (.inl v1), none, none, none]) rfl rfl rfl rfl d_T_enterMethod_11 <|
  J_iload_n (i := 3) rfl rfl d_T_enterMethod_12 <|
  J_iconst (v := (-1 : Int32)) d_T_enterMethod_13 (by decide) <|
  J_icmp_eq (tgt := 26) d_T_enterMethod_14 (by decide) (fun c18 =>
  J_vret rfl d_T_enterMethod_26 ((((((h).2) v1 ev1)).1 c18))) (fun c18 =>
  J_aload_n (i := 0) rfl rfl d_T_enterMethod_17 <|
  gT_54 rfl d_T_enterMethod_18 <|
  J_bipush (v := (nI 10)) d_T_enterMethod_21 (by decide) <|
  J_icmp_lt (tgt := 27) d_T_enterMethod_23 (by decide) (fun c17 =>
  J_aload_n (i := 0) rfl rfl d_T_enterMethod_27 <|
  gT_9 rfl d_T_enterMethod_28 <|
  J_iload_n (i := 3) rfl rfl d_T_enterMethod_31 <|
  J_iald ((((((((h).2) v1 ev1)).2 c18)).1 c17)).1 d_T_enterMethod_32 <|
  J_namei (fun v2 ev2 =>
  J_istore (i := 4) (ls' := [some (.inr (3, 0)), some (.inr (59, n1)), some (.inl x2), some (.inl v1), some (.inl v2), none, none]) rfl rfl rfl d_T_enterMethod_33 <|
  J_aload_n (i := 0) rfl rfl d_T_enterMethod_35 <|
  gT_36 rfl d_T_enterMethod_36 <|
  J_iload (i := 4) rfl d_T_enterMethod_39 <|
  J_aload_n (i := 1) rfl rfl d_T_enterMethod_41 <|
  gT_110 rfl d_T_enterMethod_42 <|
  kT_150_i rfl rfl rfl (args := [.inl v2, .inl (σ (59 + n1 % 60) 5)]) (((((((((((h).2) v1 ev1)).2 c18)).1 c17)).2) v2 ev2)) d_T_enterMethod_45 (fun r5 s3 h4 =>
  J_istore (i := 5) (ls' := [some (.inr (3, 0)), some (.inr (59, n1)), some (.inl x2), some (.inl v1), some (.inl v2), some (.inl r5), none]) rfl rfl rfl d_T_enterMethod_48 <|
  J_iload (i := 5) rfl d_T_enterMethod_50 <|
  J_iconst (v := (-1 : Int32)) d_T_enterMethod_52 (by decide) <|
  J_icmp_ne (tgt := 57) d_T_enterMethod_53 (by decide) (fun c16 =>
  J_aload_n (i := 0) rfl rfl d_T_enterMethod_57 <|
  gT_54 rfl d_T_enterMethod_58 <|
  J_bipush (v := (nI 6)) d_T_enterMethod_61 (by decide) <|
  J_imul d_T_enterMethod_63 <|
  J_namei (fun v6 ev6 =>
  J_istore (i := 6) (ls' := [some (.inr (3, 0)), some (.inr (59, n1)), some (.inl x2), some (.inl v1), some (.inl v2), some (.inl r5), some (.inl v6)]) rfl rfl rfl d_T_enterMethod_64 <|
  J_aload_n (i := 0) rfl rfl d_T_enterMethod_66 <|
  J_iload (i := 5) rfl d_T_enterMethod_67 <|
  J_aload_n (i := 0) rfl rfl d_T_enterMethod_69 <|
  gT_40 rfl d_T_enterMethod_70 <|
  J_iload (i := 4) rfl d_T_enterMethod_73 <|
  kT_153_i rfl rfl rfl (args := [.inl v2]) (((((h4).1 c16)) v6 ev6)) d_T_enterMethod_75 (fun r9 s7 h8 =>
  J_aload_n (i := 1) rfl rfl d_T_enterMethod_78 <|
  gT_104 rfl d_T_enterMethod_79 <|
  kT_63_v rfl rfl rfl (args := [.inl r5, .inl r9, .inl (s7 (59 + n1 % 60) 3)]) (h8) d_T_enterMethod_82 (fun s10 h11 =>
  J_aload_n (i := 0) rfl rfl d_T_enterMethod_85 <|
  gT_21 rfl d_T_enterMethod_86 <|
  J_iload (i := 6) rfl d_T_enterMethod_89 <|
  J_iconst (v := (0 : Int32)) d_T_enterMethod_91 (by decide) <|
  J_iadd d_T_enterMethod_92 <|
  J_iload_n (i := 3) rfl rfl d_T_enterMethod_93 <|
  J_iast (h11).1 d_T_enterMethod_94 <|
  J_names (fun t12 et12 =>
  J_aload_n (i := 0) rfl rfl d_T_enterMethod_95 <|
  gT_21 rfl d_T_enterMethod_96 <|
  J_iload (i := 6) rfl d_T_enterMethod_99 <|
  J_iconst (v := (1 : Int32)) d_T_enterMethod_101 (by decide) <|
  J_iadd d_T_enterMethod_102 <|
  J_aload_n (i := 0) rfl rfl d_T_enterMethod_103 <|
  gT_21 rfl d_T_enterMethod_104 <|
  J_iload_n (i := 2) rfl rfl d_T_enterMethod_107 <|
  J_aload_n (i := 1) rfl rfl d_T_enterMethod_108 <|
  gT_158 rfl d_T_enterMethod_109 <|
  J_iadd d_T_enterMethod_112 <|
  J_iald ((((h11).2) t12 et12)).1 d_T_enterMethod_113 <|
  J_iast (((((h11).2) t12 et12)).2).1 d_T_enterMethod_114 <|
  J_names (fun t13 et13 =>
  J_aload_n (i := 0) rfl rfl d_T_enterMethod_115 <|
  gT_21 rfl d_T_enterMethod_116 <|
  J_iload (i := 6) rfl d_T_enterMethod_119 <|
  J_iconst (v := (nI 2)) d_T_enterMethod_121 (by decide) <|
  J_iadd d_T_enterMethod_122 <|
  J_aload_n (i := 0) rfl rfl d_T_enterMethod_123 <|
  gT_21 rfl d_T_enterMethod_124 <|
  J_iload_n (i := 2) rfl rfl d_T_enterMethod_127 <|
  J_aload_n (i := 1) rfl rfl d_T_enterMethod_128 <|
  gT_161 rfl d_T_enterMethod_129 <|
  J_iadd d_T_enterMethod_132 <|
  J_iald ((((((((h11).2) t12 et12)).2).2) t13 et13)).1 d_T_enterMethod_133 <|
  J_iast (((((((((h11).2) t12 et12)).2).2) t13 et13)).2).1 d_T_enterMethod_134 <|
  J_names (fun t14 et14 =>
  J_aload_n (i := 0) rfl rfl d_T_enterMethod_135 <|
  J_dup d_T_enterMethod_136 <|
  gT_57 rfl d_T_enterMethod_137 <|
  J_iconst (v := (1 : Int32)) d_T_enterMethod_140 (by decide) <|
  J_iadd d_T_enterMethod_141 <|
  pT_57 rfl d_T_enterMethod_142 <|
  J_vret rfl d_T_enterMethod_145 ((((((((((((h11).2) t12 et12)).2).2) t13 et13)).2).2) t14 et14))))))))) (fun c16 =>
  J_vret rfl d_T_enterMethod_56 (((h4).2 c16)))))) (fun c17 =>
  J_vret rfl d_T_enterMethod_26 ((((((((h).2) v1 ev1)).2 c18)).2 c17)))))
theorem r_T_lookAt_0 {Q : Option mV → mS → Prop} {σ : mS} {x1 x2 : Int32} (h : (x1 = (-1 : Int32) → (Q none σ)) ∧ (¬ x1 = (-1 : Int32) → (MU M_S_at [.inr (2, 0), .inl x2] σ (fun r s1 => ∃ r3, r = some (.inl r3) ∧ (vp_in x1 30 ∧ (MU M_O_hasBit [.inl r3, .inl (s1 16 x1.toNatClampNeg)] s1 (fun r s4 => ∃ r6, r = some (.inl r6) ∧ ((¬ r6 = (0 : Int32) → (Q none s4)) ∧ (r6 = (0 : Int32) → (Q none (m_up s4 3 10 (0 : Int32)))))))))))) : J M_T_lookAt Q 0 [some (.inr (3, 0)), some (.inl x1), some (.inl x2)] [] σ :=
  J_iload_n (i := 1) rfl rfl d_T_lookAt_0 <|
  J_iconst (v := (-1 : Int32)) d_T_lookAt_1 (by decide) <|
  J_icmp_eq (tgt := 30) d_T_lookAt_2 (by decide) (fun c9 =>
  J_vret rfl d_T_lookAt_30 (((h).1 c9))) (fun c9 =>
  J_aload_n (i := 0) rfl rfl d_T_lookAt_5 <|
  gT_40 rfl d_T_lookAt_6 <|
  J_iload_n (i := 2) rfl rfl d_T_lookAt_9 <|
  kT_164_i rfl rfl rfl (args := [.inl x2]) (((h).2 c9)) d_T_lookAt_10 (fun r3 s1 h2 =>
  J_aload_n (i := 0) rfl rfl d_T_lookAt_13 <|
  gT_9 rfl d_T_lookAt_14 <|
  J_iload_n (i := 1) rfl rfl d_T_lookAt_17 <|
  J_iald (h2).1 d_T_lookAt_18 <|
  kT_135_i rfl rfl rfl (args := [.inl r3, .inl (s1 16 x1.toNatClampNeg)]) ((h2).2) d_T_lookAt_19 (fun r6 s4 h5 =>
  J_if_ne (tgt := 30) d_T_lookAt_22 (by decide) (fun c8 =>
  J_vret rfl d_T_lookAt_30 (((h5).1 c8))) (fun c8 =>
  J_aload_n (i := 0) rfl rfl d_T_lookAt_25 <|
  J_iconst (v := (0 : Int32)) d_T_lookAt_26 (by decide) <|
  pT_67 rfl (Or.inl rfl) d_T_lookAt_27 <|
  J_vret rfl d_T_lookAt_30 (((h5).2 c8))))))
theorem r_T_lookAtNames_0 {Q : Option mV → mS → Prop} {σ : mS} (h : ∀ v1, v1 = ((σ 3 12) - (1 : Int32)) → (vp_in v1 10 ∧ (∀ v2, v2 = (σ 20 v1.toNatClampNeg) → (vp_in v1 10 ∧ (MU M_O_namesOf [.inl v2, .inl (σ 21 v1.toNatClampNeg)] σ (fun r s3 => ∃ r5, r = some (.inl r5) ∧ (J M_T_lookAtNames Q 28 [some (.inr (3, 0)), some (.inl v1), some (.inl v2), some (.inl r5), some (.inl (0 : Int32)), none] [] s3))))))) : J M_T_lookAtNames Q 0 [some (.inr (3, 0)), none, none, none, none, none] [] σ :=
  J_aload_n (i := 0) rfl rfl d_T_lookAtNames_0 <|
  gT_54 rfl d_T_lookAtNames_1 <|
  J_iconst (v := (1 : Int32)) d_T_lookAtNames_4 (by decide) <|
  J_isub d_T_lookAtNames_5 <|
  J_namei (fun v1 ev1 =>
  J_istore_n (i := 1) (ls' := [some (.inr (3, 0)), some (.inl v1), none, none, none, none]) rfl rfl rfl rfl d_T_lookAtNames_6 <|
  J_aload_n (i := 0) rfl rfl d_T_lookAtNames_7 <|
  gT_24 rfl d_T_lookAtNames_8 <|
  J_iload_n (i := 1) rfl rfl d_T_lookAtNames_11 <|
  J_iald (((h) v1 ev1)).1 d_T_lookAtNames_12 <|
  J_namei (fun v2 ev2 =>
  J_istore_n (i := 2) (ls' := [some (.inr (3, 0)), some (.inl v1), some (.inl v2), none, none, none]) rfl rfl rfl rfl d_T_lookAtNames_13 <|
  J_iload_n (i := 2) rfl rfl d_T_lookAtNames_14 <|
  J_aload_n (i := 0) rfl rfl d_T_lookAtNames_15 <|
  gT_27 rfl d_T_lookAtNames_16 <|
  J_iload_n (i := 1) rfl rfl d_T_lookAtNames_19 <|
  J_iald ((((((h) v1 ev1)).2) v2 ev2)).1 d_T_lookAtNames_20 <|
  kT_167_i rfl rfl rfl (args := [.inl v2, .inl (σ 21 v1.toNatClampNeg)]) (((((((h) v1 ev1)).2) v2 ev2)).2) d_T_lookAtNames_21 (fun r5 s3 h4 =>
  J_istore_n (i := 3) (ls' := [some (.inr (3, 0)), some (.inl v1), some (.inl v2), some (.inl r5), none, none]) rfl rfl rfl rfl d_T_lookAtNames_24 <|
  J_iconst (v := (0 : Int32)) d_T_lookAtNames_25 (by decide) <|
  J_istore (i := 4) (ls' := [some (.inr (3, 0)), some (.inl v1), some (.inl v2), some (.inl r5), some (.inl (0 : Int32)), none]) rfl rfl rfl d_T_lookAtNames_26 <|
  h4)))
theorem r_T_lookAtNames_28 {Q : Option mV → mS → Prop} {σ : mS} {x1 x2 x3 x4 : Int32} {u5 : Option mV} (h : ((nI 6) ≤ x4 → (Q none σ)) ∧ (¬ (nI 6) ≤ x4 → (vp_in ((x1 * (nI 6)) + x4) 60 ∧ (∀ v6, v6 = (σ 19 ((x1 * (nI 6)) + x4).toNatClampNeg) → ((v6 = (-1 : Int32) → (J M_T_lookAtNames Q 28 [some (.inr (3, 0)), some (.inl x1), some (.inl x2), some (.inl x3), some (.inl (x4 + 1)), some (.inl v6)] [] σ)) ∧ (¬ v6 = (-1 : Int32) → (vp_in ((x2 * (nI 6)) + x4) 60 ∧ (vp_in v6 30 ∧ (vp_in ((x2 * (nI 6)) + x4) 60 ∧ (MU M_T_lookAt [.inr (3, 0), .inl v6, .inl (x3 + x4)] (m_up σ 23 ((x2 * (nI 6)) + x4).toNatClampNeg ((σ 23 ((x2 * (nI 6)) + x4).toNatClampNeg) ||| ((1 : Int32) <<< ((σ 16 v6.toNatClampNeg) &&& 31)))) (fun r s8 => r = none ∧ (J M_T_lookAtNames Q 28 [some (.inr (3, 0)), some (.inl x1), some (.inl x2), some (.inl x3), some (.inl (x4 + 1)), some (.inl v6)] [] s8)))))))))))) : J M_T_lookAtNames Q 28 [some (.inr (3, 0)), some (.inl x1), some (.inl x2), some (.inl x3), some (.inl x4), u5] [] σ :=
  J_iload (i := 4) rfl d_T_lookAtNames_28 <|
  J_bipush (v := (nI 6)) d_T_lookAtNames_30 (by decide) <|
  J_icmp_ge (tgt := 95) d_T_lookAtNames_32 (by decide) (fun c11 =>
  J_vret rfl d_T_lookAtNames_95 (((h).1 c11))) (fun c11 =>
  J_aload_n (i := 0) rfl rfl d_T_lookAtNames_35 <|
  gT_21 rfl d_T_lookAtNames_36 <|
  J_iload_n (i := 1) rfl rfl d_T_lookAtNames_39 <|
  J_bipush (v := (nI 6)) d_T_lookAtNames_40 (by decide) <|
  J_imul d_T_lookAtNames_42 <|
  J_iload (i := 4) rfl d_T_lookAtNames_43 <|
  J_iadd d_T_lookAtNames_45 <|
  J_iald (((h).2 c11)).1 d_T_lookAtNames_46 <|
  J_namei (fun v6 ev6 =>
  J_istore (i := 5) (ls' := [some (.inr (3, 0)), some (.inl x1), some (.inl x2), some (.inl x3), some (.inl x4), some (.inl v6)]) rfl rfl rfl d_T_lookAtNames_47 <|
  J_iload (i := 5) rfl d_T_lookAtNames_49 <|
  J_iconst (v := (-1 : Int32)) d_T_lookAtNames_51 (by decide) <|
  J_icmp_eq (tgt := 89) d_T_lookAtNames_52 (by decide) (fun c10 =>
  J_iinc (i := 4) (v := (x4 + 1)) (ls' := [some (.inr (3, 0)), some (.inl x1), some (.inl x2), some (.inl x3), some (.inl (x4 + 1)), some (.inl v6)]) rfl rfl rfl rfl rfl d_T_lookAtNames_89 <|
  J_goto (tgt := 28) d_T_lookAtNames_92 (by decide) <|
  (((((((h).2 c11)).2) v6 ev6)).1 c10)) (fun c10 =>
  J_aload_n (i := 0) rfl rfl d_T_lookAtNames_55 <|
  gT_33 rfl d_T_lookAtNames_56 <|
  J_iload_n (i := 2) rfl rfl d_T_lookAtNames_59 <|
  J_bipush (v := (nI 6)) d_T_lookAtNames_60 (by decide) <|
  J_imul d_T_lookAtNames_62 <|
  J_iload (i := 4) rfl d_T_lookAtNames_63 <|
  J_iadd d_T_lookAtNames_65 <|
  J_dup2 d_T_lookAtNames_66 <|
  J_iald ((((((((h).2 c11)).2) v6 ev6)).2 c10)).1 d_T_lookAtNames_67 <|
  J_iconst (v := (1 : Int32)) d_T_lookAtNames_68 (by decide) <|
  J_aload_n (i := 0) rfl rfl d_T_lookAtNames_69 <|
  gT_9 rfl d_T_lookAtNames_70 <|
  J_iload (i := 5) rfl d_T_lookAtNames_73 <|
  J_iald (((((((((h).2 c11)).2) v6 ev6)).2 c10)).2).1 d_T_lookAtNames_75 <|
  J_ishl d_T_lookAtNames_76 <|
  J_ior d_T_lookAtNames_77 <|
  J_iast ((((((((((h).2 c11)).2) v6 ev6)).2 c10)).2).2).1 d_T_lookAtNames_78 <|
  J_aload_n (i := 0) rfl rfl d_T_lookAtNames_79 <|
  J_iload (i := 5) rfl d_T_lookAtNames_80 <|
  J_iload_n (i := 3) rfl rfl d_T_lookAtNames_82 <|
  J_iload (i := 4) rfl d_T_lookAtNames_83 <|
  J_iadd d_T_lookAtNames_85 <|
  kT_122_v rfl rfl rfl (args := [.inl v6, .inl (x3 + x4)]) (((((((((((h).2 c11)).2) v6 ev6)).2 c10)).2).2).2) d_T_lookAtNames_86 (fun s8 h9 =>
  J_iinc (i := 4) (v := (x4 + 1)) (ls' := [some (.inr (3, 0)), some (.inl x1), some (.inl x2), some (.inl x3), some (.inl (x4 + 1)), some (.inl v6)]) rfl rfl rfl rfl rfl d_T_lookAtNames_89 <|
  J_goto (tgt := 28) d_T_lookAtNames_92 (by decide) <|
  h9))))
theorem r_I_bitCount_0 {Q : Option mV → mS → Prop} {σ : mS} {x0 : Int32} (h : ∀ v1, v1 = (x0 - ((m_ushr x0 (1 : Int32)) &&& (nI 1431655765))) → (∀ v2, v2 = ((v1 &&& (nI 858993459)) + ((m_ushr v1 (nI 2)) &&& (nI 858993459))) → (∀ v3, v3 = ((v2 + (m_ushr v2 (nI 4))) &&& (nI 252645135)) → (∀ v4, v4 = (v3 + (m_ushr v3 (nI 8))) → (Q (some (.inl ((v4 + (m_ushr v4 (nI 16))) &&& (nI 63)))) σ))))) : J M_I_bitCount Q 0 [some (.inl x0)] [] σ :=
  J_iload_n (i := 0) rfl rfl d_I_bitCount_0 <|
  J_iload_n (i := 0) rfl rfl d_I_bitCount_1 <|
  J_iconst (v := (1 : Int32)) d_I_bitCount_2 (by decide) <|
  J_iushr d_I_bitCount_3 <|
  J_ldc_w (v := (nI 1431655765)) ldc_I_265 rfl d_I_bitCount_4 <|
  J_iand d_I_bitCount_7 <|
  J_isub d_I_bitCount_8 <|
  J_namei (fun v1 ev1 =>
  J_istore_n (i := 0) (ls' := [some (.inl v1)]) rfl rfl rfl rfl d_I_bitCount_9 <|
  J_iload_n (i := 0) rfl rfl d_I_bitCount_10 <|
  J_ldc_w (v := (nI 858993459)) ldc_I_266 rfl d_I_bitCount_11 <|
  J_iand d_I_bitCount_14 <|
  J_iload_n (i := 0) rfl rfl d_I_bitCount_15 <|
  J_iconst (v := (nI 2)) d_I_bitCount_16 (by decide) <|
  J_iushr d_I_bitCount_17 <|
  J_ldc_w (v := (nI 858993459)) ldc_I_266 rfl d_I_bitCount_18 <|
  J_iand d_I_bitCount_21 <|
  J_iadd d_I_bitCount_22 <|
  J_namei (fun v2 ev2 =>
  J_istore_n (i := 0) (ls' := [some (.inl v2)]) rfl rfl rfl rfl d_I_bitCount_23 <|
  J_iload_n (i := 0) rfl rfl d_I_bitCount_24 <|
  J_iload_n (i := 0) rfl rfl d_I_bitCount_25 <|
  J_iconst (v := (nI 4)) d_I_bitCount_26 (by decide) <|
  J_iushr d_I_bitCount_27 <|
  J_iadd d_I_bitCount_28 <|
  J_ldc_w (v := (nI 252645135)) ldc_I_267 rfl d_I_bitCount_29 <|
  J_iand d_I_bitCount_32 <|
  J_namei (fun v3 ev3 =>
  J_istore_n (i := 0) (ls' := [some (.inl v3)]) rfl rfl rfl rfl d_I_bitCount_33 <|
  J_iload_n (i := 0) rfl rfl d_I_bitCount_34 <|
  J_iload_n (i := 0) rfl rfl d_I_bitCount_35 <|
  J_bipush (v := (nI 8)) d_I_bitCount_36 (by decide) <|
  J_iushr d_I_bitCount_38 <|
  J_iadd d_I_bitCount_39 <|
  J_namei (fun v4 ev4 =>
  J_istore_n (i := 0) (ls' := [some (.inl v4)]) rfl rfl rfl rfl d_I_bitCount_40 <|
  J_iload_n (i := 0) rfl rfl d_I_bitCount_41 <|
  J_iload_n (i := 0) rfl rfl d_I_bitCount_42 <|
  J_bipush (v := (nI 16)) d_I_bitCount_43 (by decide) <|
  J_iushr d_I_bitCount_45 <|
  J_iadd d_I_bitCount_46 <|
  J_istore_n (i := 0) (ls' := [some (.inl (v4 + (m_ushr v4 (nI 16))))]) rfl rfl rfl rfl d_I_bitCount_47 <|
  J_iload_n (i := 0) rfl rfl d_I_bitCount_48 <|
  J_bipush (v := (nI 63)) d_I_bitCount_49 (by decide) <|
  J_iand d_I_bitCount_51 <|
  J_iret rfl d_I_bitCount_52 (((((((((h) v1 ev1)) v2 ev2)) v3 ev3)) v4 ev4))))))
theorem r_A_fill_0 {Q : Option mV → mS → Prop} {σ : mS} {x1 : Int32} {b0 : Nat} (hb : 0 < a_n (m_cl (b0, 0))) (h : J M_A_fill Q 5 [some (.inr (b0, 0)), some (.inl x1), some (.inl (0 : Int32)), some (.inl (nI (a_n (m_cl (b0, 0)))))] [] σ) : J M_A_fill Q 0 [some (.inr (b0, 0)), some (.inl x1), none, none] [] σ :=
  J_iconst (v := (0 : Int32)) d_A_fill_0 (by decide) <|
  J_istore_n (i := 2) (ls' := [some (.inr (b0, 0)), some (.inl x1), some (.inl (0 : Int32)), none]) rfl rfl rfl rfl d_A_fill_1 <|
  J_aload_n (i := 0) rfl rfl d_A_fill_2 <|
  J_alen hb d_A_fill_3 <|
  J_istore_n (i := 3) (ls' := [some (.inr (b0, 0)), some (.inl x1), some (.inl (0 : Int32)), some (.inl (nI (a_n (m_cl (b0, 0)))))]) rfl rfl rfl rfl d_A_fill_4 <|
  h
theorem r_A_fill_5 {Q : Option mV → mS → Prop} {σ : mS} {x1 x2 x3 : Int32} {b0 : Nat} (h : (x3 ≤ x2 → (Q none σ)) ∧ (¬ x3 ≤ x2 → (vp_in x2 (a_n (m_cl (b0, 0))) ∧ (J M_A_fill Q 5 [some (.inr (b0, 0)), some (.inl x1), some (.inl (x2 + 1)), some (.inl x3)] [] (m_up σ (m_cl (b0, 0)) x2.toNatClampNeg x1))))) : J M_A_fill Q 5 [some (.inr (b0, 0)), some (.inl x1), some (.inl x2), some (.inl x3)] [] σ :=
  J_iload_n (i := 2) rfl rfl d_A_fill_5 <|
  J_iload_n (i := 3) rfl rfl d_A_fill_6 <|
  J_icmp_ge (tgt := 20) d_A_fill_7 (by decide) (fun c3 =>
  J_vret rfl d_A_fill_20 (((h).1 c3))) (fun c3 =>
  J_aload_n (i := 0) rfl rfl d_A_fill_10 <|
  J_iload_n (i := 2) rfl rfl d_A_fill_11 <|
  J_iload_n (i := 1) rfl rfl d_A_fill_12 <|
  J_iast (((h).2 c3)).1 d_A_fill_13 <|
  J_iinc (i := 2) (v := (x2 + 1)) (ls' := [some (.inr (b0, 0)), some (.inl x1), some (.inl (x2 + 1)), some (.inl x3)]) rfl rfl rfl rfl rfl d_A_fill_14 <|
  J_goto (tgt := 5) d_A_fill_17 (by decide) <|
  (((h).2 c3)).2)
theorem r_A_fillR_0 {Q : Option mV → mS → Prop} {σ : mS} {x1 x2 x3 : Int32} {b0 : Nat} (hb : 0 < a_n (m_cl (b0, 0))) (h : MU M_A_rangeCheck [.inl (nI (a_n (m_cl (b0, 0)))), .inl x1, .inl x2] σ (fun r s1 => r = none ∧ (J M_A_fillR Q 10 [some (.inr (b0, 0)), some (.inl x1), some (.inl x2), some (.inl x3), some (.inl x1)] [] s1))) : J M_A_fillR Q 0 [some (.inr (b0, 0)), some (.inl x1), some (.inl x2), some (.inl x3), none] [] σ :=
  J_aload_n (i := 0) rfl rfl d_A_fillR_0 <|
  J_alen hb d_A_fillR_1 <|
  J_iload_n (i := 1) rfl rfl d_A_fillR_2 <|
  J_iload_n (i := 2) rfl rfl d_A_fillR_3 <|
  kA_13_v rfl rfl rfl (args := [.inl (nI (a_n (m_cl (b0, 0)))), .inl x1, .inl x2]) (h) d_A_fillR_4 (fun s1 h2 =>
  J_iload_n (i := 1) rfl rfl d_A_fillR_7 <|
  J_istore (i := 4) (ls' := [some (.inr (b0, 0)), some (.inl x1), some (.inl x2), some (.inl x3), some (.inl x1)]) rfl rfl rfl d_A_fillR_8 <|
  h2)
theorem r_A_fillR_10 {Q : Option mV → mS → Prop} {σ : mS} {x2 x3 x4 : Int32} {b0 : Nat} {u1 : Option mV} (h : (x2 ≤ x4 → (Q none σ)) ∧ (¬ x2 ≤ x4 → (vp_in x4 (a_n (m_cl (b0, 0))) ∧ (J M_A_fillR Q 10 [some (.inr (b0, 0)), u1, some (.inl x2), some (.inl x3), some (.inl (x4 + 1))] [] (m_up σ (m_cl (b0, 0)) x4.toNatClampNeg x3))))) : J M_A_fillR Q 10 [some (.inr (b0, 0)), u1, some (.inl x2), some (.inl x3), some (.inl x4)] [] σ :=
  J_iload (i := 4) rfl d_A_fillR_10 <|
  J_iload_n (i := 2) rfl rfl d_A_fillR_12 <|
  J_icmp_ge (tgt := 27) d_A_fillR_13 (by decide) (fun c4 =>
  J_vret rfl d_A_fillR_27 (((h).1 c4))) (fun c4 =>
  J_aload_n (i := 0) rfl rfl d_A_fillR_16 <|
  J_iload (i := 4) rfl d_A_fillR_17 <|
  J_iload_n (i := 3) rfl rfl d_A_fillR_19 <|
  J_iast (((h).2 c4)).1 d_A_fillR_20 <|
  J_iinc (i := 4) (v := (x4 + 1)) (ls' := [some (.inr (b0, 0)), u1, some (.inl x2), some (.inl x3), some (.inl (x4 + 1))]) rfl rfl rfl rfl rfl d_A_fillR_21 <|
  J_goto (tgt := 10) d_A_fillR_24 (by decide) <|
  (((h).2 c4)).2)
