def M_CP_becomeRelation : x_M := (⟨"QuestionReader$Comparison", "becomeRelation", "(LQuestionReader$Kind;I)V"⟩, prog_4_method_4_code, 5, none, [])
theorem d_CP_becomeRelation_0 : decode M_CP_becomeRelation.2.1 0 = .ok (.aload_n 0, 1) := by decide +kernel
theorem d_CP_becomeRelation_1 : decode M_CP_becomeRelation.2.1 1 = .ok (.aload_n 1, 1) := by decide +kernel
theorem d_CP_becomeRelation_2 : decode M_CP_becomeRelation.2.1 2 = .ok (.getstatic 30, 3) := by decide +kernel
theorem d_CP_becomeRelation_5 : decode M_CP_becomeRelation.2.1 5 = .ok (.if_acmp .eq 17, 3) := by decide +kernel
theorem d_CP_becomeRelation_8 : decode M_CP_becomeRelation.2.1 8 = .ok (.aload_n 1, 1) := by decide +kernel
theorem d_CP_becomeRelation_9 : decode M_CP_becomeRelation.2.1 9 = .ok (.getstatic 36, 3) := by decide +kernel
theorem d_CP_becomeRelation_12 : decode M_CP_becomeRelation.2.1 12 = .ok (.if_acmp .eq 10, 3) := by decide +kernel
theorem d_CP_becomeRelation_15 : decode M_CP_becomeRelation.2.1 15 = .ok (.aload_n 1, 1) := by decide +kernel
theorem d_CP_becomeRelation_16 : decode M_CP_becomeRelation.2.1 16 = .ok (.getstatic 39, 3) := by decide +kernel
theorem d_CP_becomeRelation_19 : decode M_CP_becomeRelation.2.1 19 = .ok (.if_acmp .ne 7, 3) := by decide +kernel
theorem d_CP_becomeRelation_22 : decode M_CP_becomeRelation.2.1 22 = .ok (.iconst 1, 1) := by decide +kernel
theorem d_CP_becomeRelation_23 : decode M_CP_becomeRelation.2.1 23 = .ok (.goto 4, 3) := by decide +kernel
theorem d_CP_becomeRelation_26 : decode M_CP_becomeRelation.2.1 26 = .ok (.iconst 0, 1) := by decide +kernel
theorem d_CP_becomeRelation_27 : decode M_CP_becomeRelation.2.1 27 = .ok (.putfield 17, 3) := by decide +kernel
theorem d_CP_becomeRelation_30 : decode M_CP_becomeRelation.2.1 30 = .ok (.aload_n 1, 1) := by decide +kernel
theorem d_CP_becomeRelation_31 : decode M_CP_becomeRelation.2.1 31 = .ok (.getstatic 42, 3) := by decide +kernel
theorem d_CP_becomeRelation_34 : decode M_CP_becomeRelation.2.1 34 = .ok (.if_acmp .eq 10, 3) := by decide +kernel
theorem d_CP_becomeRelation_37 : decode M_CP_becomeRelation.2.1 37 = .ok (.aload_n 1, 1) := by decide +kernel
theorem d_CP_becomeRelation_38 : decode M_CP_becomeRelation.2.1 38 = .ok (.getstatic 39, 3) := by decide +kernel
theorem d_CP_becomeRelation_41 : decode M_CP_becomeRelation.2.1 41 = .ok (.if_acmp .ne 7, 3) := by decide +kernel
theorem d_CP_becomeRelation_44 : decode M_CP_becomeRelation.2.1 44 = .ok (.iconst 1, 1) := by decide +kernel
theorem d_CP_becomeRelation_45 : decode M_CP_becomeRelation.2.1 45 = .ok (.goto 4, 3) := by decide +kernel
theorem d_CP_becomeRelation_48 : decode M_CP_becomeRelation.2.1 48 = .ok (.iconst 0, 1) := by decide +kernel
theorem d_CP_becomeRelation_49 : decode M_CP_becomeRelation.2.1 49 = .ok (.istore_n 3, 1) := by decide +kernel
theorem d_CP_becomeRelation_50 : decode M_CP_becomeRelation.2.1 50 = .ok (.aload_n 1, 1) := by decide +kernel
theorem d_CP_becomeRelation_51 : decode M_CP_becomeRelation.2.1 51 = .ok (.getstatic 45, 3) := by decide +kernel
theorem d_CP_becomeRelation_54 : decode M_CP_becomeRelation.2.1 54 = .ok (.if_acmp .eq 10, 3) := by decide +kernel
theorem d_CP_becomeRelation_57 : decode M_CP_becomeRelation.2.1 57 = .ok (.aload_n 1, 1) := by decide +kernel
theorem d_CP_becomeRelation_58 : decode M_CP_becomeRelation.2.1 58 = .ok (.getstatic 36, 3) := by decide +kernel
theorem d_CP_becomeRelation_61 : decode M_CP_becomeRelation.2.1 61 = .ok (.if_acmp .ne 7, 3) := by decide +kernel
theorem d_CP_becomeRelation_64 : decode M_CP_becomeRelation.2.1 64 = .ok (.iconst 1, 1) := by decide +kernel
theorem d_CP_becomeRelation_65 : decode M_CP_becomeRelation.2.1 65 = .ok (.goto 4, 3) := by decide +kernel
theorem d_CP_becomeRelation_68 : decode M_CP_becomeRelation.2.1 68 = .ok (.iconst 0, 1) := by decide +kernel
theorem d_CP_becomeRelation_69 : decode M_CP_becomeRelation.2.1 69 = .ok (.istore 4, 2) := by decide +kernel
theorem d_CP_becomeRelation_71 : decode M_CP_becomeRelation.2.1 71 = .ok (.aload_n 0, 1) := by decide +kernel
theorem d_CP_becomeRelation_72 : decode M_CP_becomeRelation.2.1 72 = .ok (.iload_n 3, 1) := by decide +kernel
theorem d_CP_becomeRelation_73 : decode M_CP_becomeRelation.2.1 73 = .ok (.ifCond .eq 8, 3) := by decide +kernel
theorem d_CP_becomeRelation_76 : decode M_CP_becomeRelation.2.1 76 = .ok (.ldc 50, 2) := by decide +kernel
theorem d_CP_becomeRelation_78 : decode M_CP_becomeRelation.2.1 78 = .ok (.goto 4, 3) := by decide +kernel
theorem d_CP_becomeRelation_81 : decode M_CP_becomeRelation.2.1 81 = .ok (.iload_n 2, 1) := by decide +kernel
theorem d_CP_becomeRelation_82 : decode M_CP_becomeRelation.2.1 82 = .ok (.putfield 24, 3) := by decide +kernel
theorem d_CP_becomeRelation_85 : decode M_CP_becomeRelation.2.1 85 = .ok (.aload_n 0, 1) := by decide +kernel
theorem d_CP_becomeRelation_86 : decode M_CP_becomeRelation.2.1 86 = .ok (.iload 4, 2) := by decide +kernel
theorem d_CP_becomeRelation_88 : decode M_CP_becomeRelation.2.1 88 = .ok (.ifCond .eq 8, 3) := by decide +kernel
theorem d_CP_becomeRelation_91 : decode M_CP_becomeRelation.2.1 91 = .ok (.ldc 51, 2) := by decide +kernel
theorem d_CP_becomeRelation_93 : decode M_CP_becomeRelation.2.1 93 = .ok (.goto 4, 3) := by decide +kernel
theorem d_CP_becomeRelation_96 : decode M_CP_becomeRelation.2.1 96 = .ok (.iload_n 2, 1) := by decide +kernel
theorem d_CP_becomeRelation_97 : decode M_CP_becomeRelation.2.1 97 = .ok (.putfield 27, 3) := by decide +kernel
theorem d_CP_becomeRelation_100 : decode M_CP_becomeRelation.2.1 100 = .ok (.return_, 1) := by decide +kernel
theorem k_CP_becomeRelation : x_kV M_CP_becomeRelation "QuestionReader$Comparison" 2 := ⟨⟨by decide, Or.inl ⟨w_603, rfl⟩⟩, w_601, w_602, ⟨by decide, by decide⟩, by decide +kernel⟩
def M_QG_isRelation : x_M := (⟨"QuestionReader$QuestionGrammar", "isRelation", "(LQuestionReader$Kind;)Z"⟩, prog_11_method_16_code, 1, some (.boolean), [])
theorem d_QG_isRelation_0 : decode M_QG_isRelation.2.1 0 = .ok (.aload_n 0, 1) := by decide +kernel
theorem d_QG_isRelation_1 : decode M_QG_isRelation.2.1 1 = .ok (.getstatic 299, 3) := by decide +kernel
theorem d_QG_isRelation_4 : decode M_QG_isRelation.2.1 4 = .ok (.if_acmp .eq 38, 3) := by decide +kernel
theorem d_QG_isRelation_7 : decode M_QG_isRelation.2.1 7 = .ok (.aload_n 0, 1) := by decide +kernel
theorem d_QG_isRelation_8 : decode M_QG_isRelation.2.1 8 = .ok (.getstatic 302, 3) := by decide +kernel
theorem d_QG_isRelation_11 : decode M_QG_isRelation.2.1 11 = .ok (.if_acmp .eq 31, 3) := by decide +kernel
theorem d_QG_isRelation_14 : decode M_QG_isRelation.2.1 14 = .ok (.aload_n 0, 1) := by decide +kernel
theorem d_QG_isRelation_15 : decode M_QG_isRelation.2.1 15 = .ok (.getstatic 305, 3) := by decide +kernel
theorem d_QG_isRelation_18 : decode M_QG_isRelation.2.1 18 = .ok (.if_acmp .eq 24, 3) := by decide +kernel
theorem d_QG_isRelation_21 : decode M_QG_isRelation.2.1 21 = .ok (.aload_n 0, 1) := by decide +kernel
theorem d_QG_isRelation_22 : decode M_QG_isRelation.2.1 22 = .ok (.getstatic 308, 3) := by decide +kernel
theorem d_QG_isRelation_25 : decode M_QG_isRelation.2.1 25 = .ok (.if_acmp .eq 17, 3) := by decide +kernel
theorem d_QG_isRelation_28 : decode M_QG_isRelation.2.1 28 = .ok (.aload_n 0, 1) := by decide +kernel
theorem d_QG_isRelation_29 : decode M_QG_isRelation.2.1 29 = .ok (.getstatic 311, 3) := by decide +kernel
theorem d_QG_isRelation_32 : decode M_QG_isRelation.2.1 32 = .ok (.if_acmp .eq 10, 3) := by decide +kernel
theorem d_QG_isRelation_35 : decode M_QG_isRelation.2.1 35 = .ok (.aload_n 0, 1) := by decide +kernel
theorem d_QG_isRelation_36 : decode M_QG_isRelation.2.1 36 = .ok (.getstatic 314, 3) := by decide +kernel
theorem d_QG_isRelation_39 : decode M_QG_isRelation.2.1 39 = .ok (.if_acmp .ne 7, 3) := by decide +kernel
theorem d_QG_isRelation_42 : decode M_QG_isRelation.2.1 42 = .ok (.iconst 1, 1) := by decide +kernel
theorem d_QG_isRelation_43 : decode M_QG_isRelation.2.1 43 = .ok (.goto 4, 3) := by decide +kernel
theorem d_QG_isRelation_46 : decode M_QG_isRelation.2.1 46 = .ok (.iconst 0, 1) := by decide +kernel
theorem d_QG_isRelation_47 : decode M_QG_isRelation.2.1 47 = .ok (.ireturn, 1) := by decide +kernel
theorem k_QG_isRelation : x_kS M_QG_isRelation 1 := ⟨⟨by decide, Or.inl ⟨w_583, rfl⟩⟩, w_582, w_10, ⟨by decide, by decide⟩, by decide +kernel⟩
def M_QU_firstUngrouped : x_M := (⟨"QuestionReader$Question", "firstUngrouped", "()I"⟩, prog_10_method_9_code, 3, some (.int), [])
theorem d_QU_firstUngrouped_0 : decode M_QU_firstUngrouped.2.1 0 = .ok (.iconst 0, 1) := by decide +kernel
theorem d_QU_firstUngrouped_1 : decode M_QU_firstUngrouped.2.1 1 = .ok (.istore_n 1, 1) := by decide +kernel
theorem d_QU_firstUngrouped_2 : decode M_QU_firstUngrouped.2.1 2 = .ok (.iload_n 1, 1) := by decide +kernel
theorem d_QU_firstUngrouped_3 : decode M_QU_firstUngrouped.2.1 3 = .ok (.aload_n 0, 1) := by decide +kernel
theorem d_QU_firstUngrouped_4 : decode M_QU_firstUngrouped.2.1 4 = .ok (.getfield 34, 3) := by decide +kernel
theorem d_QU_firstUngrouped_7 : decode M_QU_firstUngrouped.2.1 7 = .ok (.if_icmp .ge 58, 3) := by decide +kernel
theorem d_QU_firstUngrouped_10 : decode M_QU_firstUngrouped.2.1 10 = .ok (.aload_n 0, 1) := by decide +kernel
theorem d_QU_firstUngrouped_11 : decode M_QU_firstUngrouped.2.1 11 = .ok (.getfield 11, 3) := by decide +kernel
theorem d_QU_firstUngrouped_14 : decode M_QU_firstUngrouped.2.1 14 = .ok (.iload_n 1, 1) := by decide +kernel
theorem d_QU_firstUngrouped_15 : decode M_QU_firstUngrouped.2.1 15 = .ok (.iaload, 1) := by decide +kernel
theorem d_QU_firstUngrouped_16 : decode M_QU_firstUngrouped.2.1 16 = .ok (.ifCond .eq 13, 3) := by decide +kernel
theorem d_QU_firstUngrouped_19 : decode M_QU_firstUngrouped.2.1 19 = .ok (.aload_n 0, 1) := by decide +kernel
theorem d_QU_firstUngrouped_20 : decode M_QU_firstUngrouped.2.1 20 = .ok (.getfield 11, 3) := by decide +kernel
theorem d_QU_firstUngrouped_23 : decode M_QU_firstUngrouped.2.1 23 = .ok (.iload_n 1, 1) := by decide +kernel
theorem d_QU_firstUngrouped_24 : decode M_QU_firstUngrouped.2.1 24 = .ok (.iaload, 1) := by decide +kernel
theorem d_QU_firstUngrouped_25 : decode M_QU_firstUngrouped.2.1 25 = .ok (.iconst 5, 1) := by decide +kernel
theorem d_QU_firstUngrouped_26 : decode M_QU_firstUngrouped.2.1 26 = .ok (.if_icmp .ne 7, 3) := by decide +kernel
theorem d_QU_firstUngrouped_29 : decode M_QU_firstUngrouped.2.1 29 = .ok (.iconst 1, 1) := by decide +kernel
theorem d_QU_firstUngrouped_30 : decode M_QU_firstUngrouped.2.1 30 = .ok (.goto 4, 3) := by decide +kernel
theorem d_QU_firstUngrouped_33 : decode M_QU_firstUngrouped.2.1 33 = .ok (.iconst 0, 1) := by decide +kernel
theorem d_QU_firstUngrouped_34 : decode M_QU_firstUngrouped.2.1 34 = .ok (.istore_n 2, 1) := by decide +kernel
theorem d_QU_firstUngrouped_35 : decode M_QU_firstUngrouped.2.1 35 = .ok (.iload_n 2, 1) := by decide +kernel
theorem d_QU_firstUngrouped_36 : decode M_QU_firstUngrouped.2.1 36 = .ok (.ifCond .eq 23, 3) := by decide +kernel
theorem d_QU_firstUngrouped_39 : decode M_QU_firstUngrouped.2.1 39 = .ok (.aload_n 0, 1) := by decide +kernel
theorem d_QU_firstUngrouped_40 : decode M_QU_firstUngrouped.2.1 40 = .ok (.aload_n 0, 1) := by decide +kernel
theorem d_QU_firstUngrouped_41 : decode M_QU_firstUngrouped.2.1 41 = .ok (.getfield 15, 3) := by decide +kernel
theorem d_QU_firstUngrouped_44 : decode M_QU_firstUngrouped.2.1 44 = .ok (.iload_n 1, 1) := by decide +kernel
theorem d_QU_firstUngrouped_45 : decode M_QU_firstUngrouped.2.1 45 = .ok (.iaload, 1) := by decide +kernel
theorem d_QU_firstUngrouped_46 : decode M_QU_firstUngrouped.2.1 46 = .ok (.invokevirtual 61, 3) := by decide +kernel
theorem d_QU_firstUngrouped_49 : decode M_QU_firstUngrouped.2.1 49 = .ok (.ifCond .ne 10, 3) := by decide +kernel
theorem d_QU_firstUngrouped_52 : decode M_QU_firstUngrouped.2.1 52 = .ok (.aload_n 0, 1) := by decide +kernel
theorem d_QU_firstUngrouped_53 : decode M_QU_firstUngrouped.2.1 53 = .ok (.getfield 18, 3) := by decide +kernel
theorem d_QU_firstUngrouped_56 : decode M_QU_firstUngrouped.2.1 56 = .ok (.iload_n 1, 1) := by decide +kernel
theorem d_QU_firstUngrouped_57 : decode M_QU_firstUngrouped.2.1 57 = .ok (.iaload, 1) := by decide +kernel
theorem d_QU_firstUngrouped_58 : decode M_QU_firstUngrouped.2.1 58 = .ok (.ireturn, 1) := by decide +kernel
theorem d_QU_firstUngrouped_59 : decode M_QU_firstUngrouped.2.1 59 = .ok (.iinc 1 1, 3) := by decide +kernel
theorem d_QU_firstUngrouped_62 : decode M_QU_firstUngrouped.2.1 62 = .ok (.goto (-60), 3) := by decide +kernel
theorem d_QU_firstUngrouped_65 : decode M_QU_firstUngrouped.2.1 65 = .ok (.iconst (-1), 1) := by decide +kernel
theorem d_QU_firstUngrouped_66 : decode M_QU_firstUngrouped.2.1 66 = .ok (.ireturn, 1) := by decide +kernel
theorem k_QU_firstUngrouped : x_kV M_QU_firstUngrouped "QuestionReader$Question" 0 := ⟨⟨by decide, Or.inl ⟨w_684, rfl⟩⟩, w_682, w_683, ⟨by decide, by decide⟩, by decide +kernel⟩
def M_CN_clear : x_M := (⟨"QuestionReader$Condition", "clear", "()V"⟩, prog_5_method_2_code, 1, none, [])
theorem d_CN_clear_0 : decode M_CN_clear.2.1 0 = .ok (.aload_n 0, 1) := by decide +kernel
theorem d_CN_clear_1 : decode M_CN_clear.2.1 1 = .ok (.iconst 0, 1) := by decide +kernel
theorem d_CN_clear_2 : decode M_CN_clear.2.1 2 = .ok (.putfield 44, 3) := by decide +kernel
theorem d_CN_clear_5 : decode M_CN_clear.2.1 5 = .ok (.aload_n 0, 1) := by decide +kernel
theorem d_CN_clear_6 : decode M_CN_clear.2.1 6 = .ok (.iconst 0, 1) := by decide +kernel
theorem d_CN_clear_7 : decode M_CN_clear.2.1 7 = .ok (.putfield 48, 3) := by decide +kernel
theorem d_CN_clear_10 : decode M_CN_clear.2.1 10 = .ok (.aload_n 0, 1) := by decide +kernel
theorem d_CN_clear_11 : decode M_CN_clear.2.1 11 = .ok (.iconst 0, 1) := by decide +kernel
theorem d_CN_clear_12 : decode M_CN_clear.2.1 12 = .ok (.putfield 51, 3) := by decide +kernel
theorem d_CN_clear_15 : decode M_CN_clear.2.1 15 = .ok (.aload_n 0, 1) := by decide +kernel
theorem d_CN_clear_16 : decode M_CN_clear.2.1 16 = .ok (.invokevirtual 54, 3) := by decide +kernel
theorem d_CN_clear_19 : decode M_CN_clear.2.1 19 = .ok (.return_, 1) := by decide +kernel
theorem k_CN_clear : x_kV M_CN_clear "QuestionReader$Condition" 0 := ⟨⟨by decide, Or.inl ⟨w_381, rfl⟩⟩, w_379, w_380, ⟨by decide, by decide⟩, by decide +kernel⟩
def M_QU_clear : x_M := (⟨"QuestionReader$Question", "clear", "()V"⟩, prog_10_method_2_code, 1, none, [])
theorem d_QU_clear_0 : decode M_QU_clear.2.1 0 = .ok (.aload_n 0, 1) := by decide +kernel
theorem d_QU_clear_1 : decode M_QU_clear.2.1 1 = .ok (.iconst 0, 1) := by decide +kernel
theorem d_QU_clear_2 : decode M_QU_clear.2.1 2 = .ok (.putfield 34, 3) := by decide +kernel
theorem d_QU_clear_5 : decode M_QU_clear.2.1 5 = .ok (.aload_n 0, 1) := by decide +kernel
theorem d_QU_clear_6 : decode M_QU_clear.2.1 6 = .ok (.iconst 0, 1) := by decide +kernel
theorem d_QU_clear_7 : decode M_QU_clear.2.1 7 = .ok (.putfield 38, 3) := by decide +kernel
theorem d_QU_clear_10 : decode M_QU_clear.2.1 10 = .ok (.aload_n 0, 1) := by decide +kernel
theorem d_QU_clear_11 : decode M_QU_clear.2.1 11 = .ok (.iconst 0, 1) := by decide +kernel
theorem d_QU_clear_12 : decode M_QU_clear.2.1 12 = .ok (.putfield 41, 3) := by decide +kernel
theorem d_QU_clear_15 : decode M_QU_clear.2.1 15 = .ok (.aload_n 0, 1) := by decide +kernel
theorem d_QU_clear_16 : decode M_QU_clear.2.1 16 = .ok (.getfield 30, 3) := by decide +kernel
theorem d_QU_clear_19 : decode M_QU_clear.2.1 19 = .ok (.invokevirtual 44, 3) := by decide +kernel
theorem d_QU_clear_22 : decode M_QU_clear.2.1 22 = .ok (.return_, 1) := by decide +kernel
theorem k_QU_clear : x_kV M_QU_clear "QuestionReader$Question" 0 := ⟨⟨by decide, Or.inl ⟨w_377, rfl⟩⟩, w_375, w_376, ⟨by decide, by decide⟩, by decide +kernel⟩
def M_QU_restart : x_M := (⟨"QuestionReader$Question", "restart", "()V"⟩, prog_10_method_3_code, 1, none, [])
theorem d_QU_restart_0 : decode M_QU_restart.2.1 0 = .ok (.aload_n 0, 1) := by decide +kernel
theorem d_QU_restart_1 : decode M_QU_restart.2.1 1 = .ok (.invokevirtual 47, 3) := by decide +kernel
theorem d_QU_restart_4 : decode M_QU_restart.2.1 4 = .ok (.aload_n 0, 1) := by decide +kernel
theorem d_QU_restart_5 : decode M_QU_restart.2.1 5 = .ok (.getfield 24, 3) := by decide +kernel
theorem d_QU_restart_8 : decode M_QU_restart.2.1 8 = .ok (.iconst 0, 1) := by decide +kernel
theorem d_QU_restart_9 : decode M_QU_restart.2.1 9 = .ok (.iconst 0, 1) := by decide +kernel
theorem d_QU_restart_10 : decode M_QU_restart.2.1 10 = .ok (.iastore, 1) := by decide +kernel
theorem d_QU_restart_11 : decode M_QU_restart.2.1 11 = .ok (.aload_n 0, 1) := by decide +kernel
theorem d_QU_restart_12 : decode M_QU_restart.2.1 12 = .ok (.iconst 1, 1) := by decide +kernel
theorem d_QU_restart_13 : decode M_QU_restart.2.1 13 = .ok (.putfield 41, 3) := by decide +kernel
theorem d_QU_restart_16 : decode M_QU_restart.2.1 16 = .ok (.return_, 1) := by decide +kernel
theorem k_QU_restart : x_kV M_QU_restart "QuestionReader$Question" 0 := ⟨⟨by decide, Or.inl ⟨w_445, rfl⟩⟩, w_443, w_444, ⟨by decide, by decide⟩, by decide +kernel⟩
def M_DM_lowerThan : x_M := (⟨"QuestionReader$Dimension", "lowerThan", "(II)I"⟩, prog_6_method_7_code, 7, some (.int), [])
theorem d_DM_lowerThan_0 : decode M_DM_lowerThan.2.1 0 = .ok (.iconst 0, 1) := by decide +kernel
theorem d_DM_lowerThan_1 : decode M_DM_lowerThan.2.1 1 = .ok (.istore_n 3, 1) := by decide +kernel
theorem d_DM_lowerThan_2 : decode M_DM_lowerThan.2.1 2 = .ok (.aload_n 0, 1) := by decide +kernel
theorem d_DM_lowerThan_3 : decode M_DM_lowerThan.2.1 3 = .ok (.getfield 23, 3) := by decide +kernel
theorem d_DM_lowerThan_6 : decode M_DM_lowerThan.2.1 6 = .ok (.iload_n 1, 1) := by decide +kernel
theorem d_DM_lowerThan_7 : decode M_DM_lowerThan.2.1 7 = .ok (.iaload, 1) := by decide +kernel
theorem d_DM_lowerThan_8 : decode M_DM_lowerThan.2.1 8 = .ok (.istore 4, 2) := by decide +kernel
theorem d_DM_lowerThan_10 : decode M_DM_lowerThan.2.1 10 = .ok (.iconst 0, 1) := by decide +kernel
theorem d_DM_lowerThan_11 : decode M_DM_lowerThan.2.1 11 = .ok (.istore 5, 2) := by decide +kernel
theorem d_DM_lowerThan_13 : decode M_DM_lowerThan.2.1 13 = .ok (.iload 5, 2) := by decide +kernel
theorem d_DM_lowerThan_15 : decode M_DM_lowerThan.2.1 15 = .ok (.bipush 32, 2) := by decide +kernel
theorem d_DM_lowerThan_17 : decode M_DM_lowerThan.2.1 17 = .ok (.if_icmp .ge 48, 3) := by decide +kernel
theorem d_DM_lowerThan_20 : decode M_DM_lowerThan.2.1 20 = .ok (.iload_n 3, 1) := by decide +kernel
theorem d_DM_lowerThan_21 : decode M_DM_lowerThan.2.1 21 = .ok (.iload 4, 2) := by decide +kernel
theorem d_DM_lowerThan_23 : decode M_DM_lowerThan.2.1 23 = .ok (.if_icmp .ge 42, 3) := by decide +kernel
theorem d_DM_lowerThan_26 : decode M_DM_lowerThan.2.1 26 = .ok (.iload_n 3, 1) := by decide +kernel
theorem d_DM_lowerThan_27 : decode M_DM_lowerThan.2.1 27 = .ok (.iload 4, 2) := by decide +kernel
theorem d_DM_lowerThan_29 : decode M_DM_lowerThan.2.1 29 = .ok (.iadd, 1) := by decide +kernel
theorem d_DM_lowerThan_30 : decode M_DM_lowerThan.2.1 30 = .ok (.iconst 1, 1) := by decide +kernel
theorem d_DM_lowerThan_31 : decode M_DM_lowerThan.2.1 31 = .ok (.iushr, 1) := by decide +kernel
theorem d_DM_lowerThan_32 : decode M_DM_lowerThan.2.1 32 = .ok (.istore 6, 2) := by decide +kernel
theorem d_DM_lowerThan_34 : decode M_DM_lowerThan.2.1 34 = .ok (.aload_n 0, 1) := by decide +kernel
theorem d_DM_lowerThan_35 : decode M_DM_lowerThan.2.1 35 = .ok (.getfield 20, 3) := by decide +kernel
theorem d_DM_lowerThan_38 : decode M_DM_lowerThan.2.1 38 = .ok (.iload_n 1, 1) := by decide +kernel
theorem d_DM_lowerThan_39 : decode M_DM_lowerThan.2.1 39 = .ok (.aaload, 1) := by decide +kernel
theorem d_DM_lowerThan_40 : decode M_DM_lowerThan.2.1 40 = .ok (.iload 6, 2) := by decide +kernel
theorem d_DM_lowerThan_42 : decode M_DM_lowerThan.2.1 42 = .ok (.iaload, 1) := by decide +kernel
theorem d_DM_lowerThan_43 : decode M_DM_lowerThan.2.1 43 = .ok (.iload_n 2, 1) := by decide +kernel
theorem d_DM_lowerThan_44 : decode M_DM_lowerThan.2.1 44 = .ok (.if_icmp .ge 11, 3) := by decide +kernel
theorem d_DM_lowerThan_47 : decode M_DM_lowerThan.2.1 47 = .ok (.iload 6, 2) := by decide +kernel
theorem d_DM_lowerThan_49 : decode M_DM_lowerThan.2.1 49 = .ok (.iconst 1, 1) := by decide +kernel
theorem d_DM_lowerThan_50 : decode M_DM_lowerThan.2.1 50 = .ok (.iadd, 1) := by decide +kernel
theorem d_DM_lowerThan_51 : decode M_DM_lowerThan.2.1 51 = .ok (.istore_n 3, 1) := by decide +kernel
theorem d_DM_lowerThan_52 : decode M_DM_lowerThan.2.1 52 = .ok (.goto 7, 3) := by decide +kernel
theorem d_DM_lowerThan_55 : decode M_DM_lowerThan.2.1 55 = .ok (.iload 6, 2) := by decide +kernel
theorem d_DM_lowerThan_57 : decode M_DM_lowerThan.2.1 57 = .ok (.istore 4, 2) := by decide +kernel
theorem d_DM_lowerThan_59 : decode M_DM_lowerThan.2.1 59 = .ok (.iinc 5 1, 3) := by decide +kernel
theorem d_DM_lowerThan_62 : decode M_DM_lowerThan.2.1 62 = .ok (.goto (-49), 3) := by decide +kernel
theorem d_DM_lowerThan_65 : decode M_DM_lowerThan.2.1 65 = .ok (.iload_n 3, 1) := by decide +kernel
theorem d_DM_lowerThan_66 : decode M_DM_lowerThan.2.1 66 = .ok (.ireturn, 1) := by decide +kernel
theorem k_DM_lowerThan : x_kV M_DM_lowerThan "QuestionReader$Dimension" 2 := ⟨⟨by decide, Or.inl ⟨w_792, rfl⟩⟩, w_790, w_791, ⟨by decide, by decide⟩, by decide +kernel⟩
def M_TX_addFour : x_M := (⟨"QuestionReader$Text", "addFour", "(I)V"⟩, prog_12_method_2_code, 3, none, [])
theorem d_TX_addFour_0 : decode M_TX_addFour.2.1 0 = .ok (.bipush 24, 2) := by decide +kernel
theorem d_TX_addFour_2 : decode M_TX_addFour.2.1 2 = .ok (.istore_n 2, 1) := by decide +kernel
theorem d_TX_addFour_3 : decode M_TX_addFour.2.1 3 = .ok (.iload_n 2, 1) := by decide +kernel
theorem d_TX_addFour_4 : decode M_TX_addFour.2.1 4 = .ok (.ifCond .lt 41, 3) := by decide +kernel
theorem d_TX_addFour_7 : decode M_TX_addFour.2.1 7 = .ok (.aload_n 0, 1) := by decide +kernel
theorem d_TX_addFour_8 : decode M_TX_addFour.2.1 8 = .ok (.getfield 14, 3) := by decide +kernel
theorem d_TX_addFour_11 : decode M_TX_addFour.2.1 11 = .ok (.ldc 9, 2) := by decide +kernel
theorem d_TX_addFour_13 : decode M_TX_addFour.2.1 13 = .ok (.if_icmp .ge 32, 3) := by decide +kernel
theorem d_TX_addFour_16 : decode M_TX_addFour.2.1 16 = .ok (.aload_n 0, 1) := by decide +kernel
theorem d_TX_addFour_17 : decode M_TX_addFour.2.1 17 = .ok (.getfield 10, 3) := by decide +kernel
theorem d_TX_addFour_20 : decode M_TX_addFour.2.1 20 = .ok (.aload_n 0, 1) := by decide +kernel
theorem d_TX_addFour_21 : decode M_TX_addFour.2.1 21 = .ok (.getfield 14, 3) := by decide +kernel
theorem d_TX_addFour_24 : decode M_TX_addFour.2.1 24 = .ok (.iload_n 1, 1) := by decide +kernel
theorem d_TX_addFour_25 : decode M_TX_addFour.2.1 25 = .ok (.iload_n 2, 1) := by decide +kernel
theorem d_TX_addFour_26 : decode M_TX_addFour.2.1 26 = .ok (.iushr, 1) := by decide +kernel
theorem d_TX_addFour_27 : decode M_TX_addFour.2.1 27 = .ok (.i2b, 1) := by decide +kernel
theorem d_TX_addFour_28 : decode M_TX_addFour.2.1 28 = .ok (.bastore, 1) := by decide +kernel
theorem d_TX_addFour_29 : decode M_TX_addFour.2.1 29 = .ok (.aload_n 0, 1) := by decide +kernel
theorem d_TX_addFour_30 : decode M_TX_addFour.2.1 30 = .ok (.dup, 1) := by decide +kernel
theorem d_TX_addFour_31 : decode M_TX_addFour.2.1 31 = .ok (.getfield 14, 3) := by decide +kernel
theorem d_TX_addFour_34 : decode M_TX_addFour.2.1 34 = .ok (.iconst 1, 1) := by decide +kernel
theorem d_TX_addFour_35 : decode M_TX_addFour.2.1 35 = .ok (.iadd, 1) := by decide +kernel
theorem d_TX_addFour_36 : decode M_TX_addFour.2.1 36 = .ok (.putfield 14, 3) := by decide +kernel
theorem d_TX_addFour_39 : decode M_TX_addFour.2.1 39 = .ok (.iinc 2 (-8), 3) := by decide +kernel
theorem d_TX_addFour_42 : decode M_TX_addFour.2.1 42 = .ok (.goto (-39), 3) := by decide +kernel
theorem d_TX_addFour_45 : decode M_TX_addFour.2.1 45 = .ok (.return_, 1) := by decide +kernel
theorem k_TX_addFour : x_kV M_TX_addFour "QuestionReader$Text" 1 := ⟨⟨by decide, Or.inl ⟨w_872, rfl⟩⟩, w_870, w_871, ⟨by decide, by decide⟩, by decide +kernel⟩
def M_CT_hasDimension : x_M := (⟨"QuestionReader$Catalog", "hasDimension", "(I)Z"⟩, prog_2_method_2_code, 2, some (.boolean), [])
theorem d_CT_hasDimension_0 : decode M_CT_hasDimension.2.1 0 = .ok (.iload_n 1, 1) := by decide +kernel
theorem d_CT_hasDimension_1 : decode M_CT_hasDimension.2.1 1 = .ok (.ifCond .lt 15, 3) := by decide +kernel
theorem d_CT_hasDimension_4 : decode M_CT_hasDimension.2.1 4 = .ok (.iload_n 1, 1) := by decide +kernel
theorem d_CT_hasDimension_5 : decode M_CT_hasDimension.2.1 5 = .ok (.aload_n 0, 1) := by decide +kernel
theorem d_CT_hasDimension_6 : decode M_CT_hasDimension.2.1 6 = .ok (.getfield 25, 3) := by decide +kernel
theorem d_CT_hasDimension_9 : decode M_CT_hasDimension.2.1 9 = .ok (.if_icmp .ge 7, 3) := by decide +kernel
theorem d_CT_hasDimension_12 : decode M_CT_hasDimension.2.1 12 = .ok (.iconst 1, 1) := by decide +kernel
theorem d_CT_hasDimension_13 : decode M_CT_hasDimension.2.1 13 = .ok (.goto 4, 3) := by decide +kernel
theorem d_CT_hasDimension_16 : decode M_CT_hasDimension.2.1 16 = .ok (.iconst 0, 1) := by decide +kernel
theorem d_CT_hasDimension_17 : decode M_CT_hasDimension.2.1 17 = .ok (.ireturn, 1) := by decide +kernel
theorem k_CT_hasDimension : x_kV M_CT_hasDimension "QuestionReader$Catalog" 1 := ⟨⟨by decide, Or.inl ⟨w_925, rfl⟩⟩, w_923, w_924, ⟨by decide, by decide⟩, by decide +kernel⟩
def M_CT_hasLevel : x_M := (⟨"QuestionReader$Catalog", "hasLevel", "(II)Z"⟩, prog_2_method_3_code, 3, some (.boolean), [])
theorem d_CT_hasLevel_0 : decode M_CT_hasLevel.2.1 0 = .ok (.aload_n 0, 1) := by decide +kernel
theorem d_CT_hasLevel_1 : decode M_CT_hasLevel.2.1 1 = .ok (.iload_n 1, 1) := by decide +kernel
theorem d_CT_hasLevel_2 : decode M_CT_hasLevel.2.1 2 = .ok (.invokevirtual 29, 3) := by decide +kernel
theorem d_CT_hasLevel_5 : decode M_CT_hasLevel.2.1 5 = .ok (.ifCond .eq 24, 3) := by decide +kernel
theorem d_CT_hasLevel_8 : decode M_CT_hasLevel.2.1 8 = .ok (.iload_n 2, 1) := by decide +kernel
theorem d_CT_hasLevel_9 : decode M_CT_hasLevel.2.1 9 = .ok (.ifCond .lt 20, 3) := by decide +kernel
theorem d_CT_hasLevel_12 : decode M_CT_hasLevel.2.1 12 = .ok (.iload_n 2, 1) := by decide +kernel
theorem d_CT_hasLevel_13 : decode M_CT_hasLevel.2.1 13 = .ok (.aload_n 0, 1) := by decide +kernel
theorem d_CT_hasLevel_14 : decode M_CT_hasLevel.2.1 14 = .ok (.getfield 20, 3) := by decide +kernel
theorem d_CT_hasLevel_17 : decode M_CT_hasLevel.2.1 17 = .ok (.iload_n 1, 1) := by decide +kernel
theorem d_CT_hasLevel_18 : decode M_CT_hasLevel.2.1 18 = .ok (.aaload, 1) := by decide +kernel
theorem d_CT_hasLevel_19 : decode M_CT_hasLevel.2.1 19 = .ok (.getfield 33, 3) := by decide +kernel
theorem d_CT_hasLevel_22 : decode M_CT_hasLevel.2.1 22 = .ok (.if_icmp .ge 7, 3) := by decide +kernel
theorem d_CT_hasLevel_25 : decode M_CT_hasLevel.2.1 25 = .ok (.iconst 1, 1) := by decide +kernel
theorem d_CT_hasLevel_26 : decode M_CT_hasLevel.2.1 26 = .ok (.goto 4, 3) := by decide +kernel
theorem d_CT_hasLevel_29 : decode M_CT_hasLevel.2.1 29 = .ok (.iconst 0, 1) := by decide +kernel
theorem d_CT_hasLevel_30 : decode M_CT_hasLevel.2.1 30 = .ok (.ireturn, 1) := by decide +kernel
theorem k_CT_hasLevel : x_kV M_CT_hasLevel "QuestionReader$Catalog" 2 := ⟨⟨by decide, Or.inl ⟨w_936, rfl⟩⟩, w_934, w_935, ⟨by decide, by decide⟩, by decide +kernel⟩
def M_CT_hasMember : x_M := (⟨"QuestionReader$Catalog", "hasMember", "(II)Z"⟩, prog_2_method_4_code, 3, some (.boolean), [])
theorem d_CT_hasMember_0 : decode M_CT_hasMember.2.1 0 = .ok (.aload_n 0, 1) := by decide +kernel
theorem d_CT_hasMember_1 : decode M_CT_hasMember.2.1 1 = .ok (.iload_n 1, 1) := by decide +kernel
theorem d_CT_hasMember_2 : decode M_CT_hasMember.2.1 2 = .ok (.invokevirtual 29, 3) := by decide +kernel
theorem d_CT_hasMember_5 : decode M_CT_hasMember.2.1 5 = .ok (.ifCond .eq 24, 3) := by decide +kernel
theorem d_CT_hasMember_8 : decode M_CT_hasMember.2.1 8 = .ok (.iload_n 2, 1) := by decide +kernel
theorem d_CT_hasMember_9 : decode M_CT_hasMember.2.1 9 = .ok (.ifCond .lt 20, 3) := by decide +kernel
theorem d_CT_hasMember_12 : decode M_CT_hasMember.2.1 12 = .ok (.iload_n 2, 1) := by decide +kernel
theorem d_CT_hasMember_13 : decode M_CT_hasMember.2.1 13 = .ok (.aload_n 0, 1) := by decide +kernel
theorem d_CT_hasMember_14 : decode M_CT_hasMember.2.1 14 = .ok (.getfield 20, 3) := by decide +kernel
theorem d_CT_hasMember_17 : decode M_CT_hasMember.2.1 17 = .ok (.iload_n 1, 1) := by decide +kernel
theorem d_CT_hasMember_18 : decode M_CT_hasMember.2.1 18 = .ok (.aaload, 1) := by decide +kernel
theorem d_CT_hasMember_19 : decode M_CT_hasMember.2.1 19 = .ok (.getfield 36, 3) := by decide +kernel
theorem d_CT_hasMember_22 : decode M_CT_hasMember.2.1 22 = .ok (.if_icmp .ge 7, 3) := by decide +kernel
theorem d_CT_hasMember_25 : decode M_CT_hasMember.2.1 25 = .ok (.iconst 1, 1) := by decide +kernel
theorem d_CT_hasMember_26 : decode M_CT_hasMember.2.1 26 = .ok (.goto 4, 3) := by decide +kernel
theorem d_CT_hasMember_29 : decode M_CT_hasMember.2.1 29 = .ok (.iconst 0, 1) := by decide +kernel
theorem d_CT_hasMember_30 : decode M_CT_hasMember.2.1 30 = .ok (.ireturn, 1) := by decide +kernel
theorem k_CT_hasMember : x_kV M_CT_hasMember "QuestionReader$Catalog" 2 := ⟨⟨by decide, Or.inl ⟨w_941, rfl⟩⟩, w_939, w_940, ⟨by decide, by decide⟩, by decide +kernel⟩
def M_DM_valueAt : x_M := (⟨"QuestionReader$Dimension", "valueAt", "(II)I"⟩, prog_6_method_5_code, 3, some (.int), [])
theorem d_DM_valueAt_0 : decode M_DM_valueAt.2.1 0 = .ok (.aload_n 0, 1) := by decide +kernel
theorem d_DM_valueAt_1 : decode M_DM_valueAt.2.1 1 = .ok (.getfield 13, 3) := by decide +kernel
theorem d_DM_valueAt_4 : decode M_DM_valueAt.2.1 4 = .ok (.iload_n 1, 1) := by decide +kernel
theorem d_DM_valueAt_5 : decode M_DM_valueAt.2.1 5 = .ok (.aaload, 1) := by decide +kernel
theorem d_DM_valueAt_6 : decode M_DM_valueAt.2.1 6 = .ok (.aload_n 0, 1) := by decide +kernel
theorem d_DM_valueAt_7 : decode M_DM_valueAt.2.1 7 = .ok (.getfield 16, 3) := by decide +kernel
theorem d_DM_valueAt_10 : decode M_DM_valueAt.2.1 10 = .ok (.iload_n 2, 1) := by decide +kernel
theorem d_DM_valueAt_11 : decode M_DM_valueAt.2.1 11 = .ok (.iaload, 1) := by decide +kernel
theorem d_DM_valueAt_12 : decode M_DM_valueAt.2.1 12 = .ok (.iaload, 1) := by decide +kernel
theorem d_DM_valueAt_13 : decode M_DM_valueAt.2.1 13 = .ok (.ireturn, 1) := by decide +kernel
theorem k_DM_valueAt : x_kV M_DM_valueAt "QuestionReader$Dimension" 2 := ⟨⟨by decide, Or.inl ⟨w_945, rfl⟩⟩, w_943, w_944, ⟨by decide, by decide⟩, by decide +kernel⟩
def M_DM_distinctAt : x_M := (⟨"QuestionReader$Dimension", "distinctAt", "(I)I"⟩, prog_6_method_6_code, 2, some (.int), [])
theorem d_DM_distinctAt_0 : decode M_DM_distinctAt.2.1 0 = .ok (.aload_n 0, 1) := by decide +kernel
theorem d_DM_distinctAt_1 : decode M_DM_distinctAt.2.1 1 = .ok (.getfield 23, 3) := by decide +kernel
theorem d_DM_distinctAt_4 : decode M_DM_distinctAt.2.1 4 = .ok (.iload_n 1, 1) := by decide +kernel
theorem d_DM_distinctAt_5 : decode M_DM_distinctAt.2.1 5 = .ok (.iaload, 1) := by decide +kernel
theorem d_DM_distinctAt_6 : decode M_DM_distinctAt.2.1 6 = .ok (.ireturn, 1) := by decide +kernel
theorem k_DM_distinctAt : x_kV M_DM_distinctAt "QuestionReader$Dimension" 1 := ⟨⟨by decide, Or.inl ⟨w_961, rfl⟩⟩, w_959, w_960, ⟨by decide, by decide⟩, by decide +kernel⟩
def M_DM_placeOf : x_M := (⟨"QuestionReader$Dimension", "placeOf", "(I)I"⟩, prog_6_method_8_code, 3, some (.int), [])
theorem d_DM_placeOf_0 : decode M_DM_placeOf.2.1 0 = .ok (.aload_n 0, 1) := by decide +kernel
theorem d_DM_placeOf_1 : decode M_DM_placeOf.2.1 1 = .ok (.iconst 0, 1) := by decide +kernel
theorem d_DM_placeOf_2 : decode M_DM_placeOf.2.1 2 = .ok (.iload_n 1, 1) := by decide +kernel
theorem d_DM_placeOf_3 : decode M_DM_placeOf.2.1 3 = .ok (.invokevirtual 45, 3) := by decide +kernel
theorem d_DM_placeOf_6 : decode M_DM_placeOf.2.1 6 = .ok (.istore_n 2, 1) := by decide +kernel
theorem d_DM_placeOf_7 : decode M_DM_placeOf.2.1 7 = .ok (.iload_n 2, 1) := by decide +kernel
theorem d_DM_placeOf_8 : decode M_DM_placeOf.2.1 8 = .ok (.aload_n 0, 1) := by decide +kernel
theorem d_DM_placeOf_9 : decode M_DM_placeOf.2.1 9 = .ok (.getfield 23, 3) := by decide +kernel
theorem d_DM_placeOf_12 : decode M_DM_placeOf.2.1 12 = .ok (.iconst 0, 1) := by decide +kernel
theorem d_DM_placeOf_13 : decode M_DM_placeOf.2.1 13 = .ok (.iaload, 1) := by decide +kernel
theorem d_DM_placeOf_14 : decode M_DM_placeOf.2.1 14 = .ok (.if_icmp .ge 19, 3) := by decide +kernel
theorem d_DM_placeOf_17 : decode M_DM_placeOf.2.1 17 = .ok (.aload_n 0, 1) := by decide +kernel
theorem d_DM_placeOf_18 : decode M_DM_placeOf.2.1 18 = .ok (.getfield 20, 3) := by decide +kernel
theorem d_DM_placeOf_21 : decode M_DM_placeOf.2.1 21 = .ok (.iconst 0, 1) := by decide +kernel
theorem d_DM_placeOf_22 : decode M_DM_placeOf.2.1 22 = .ok (.aaload, 1) := by decide +kernel
theorem d_DM_placeOf_23 : decode M_DM_placeOf.2.1 23 = .ok (.iload_n 2, 1) := by decide +kernel
theorem d_DM_placeOf_24 : decode M_DM_placeOf.2.1 24 = .ok (.iaload, 1) := by decide +kernel
theorem d_DM_placeOf_25 : decode M_DM_placeOf.2.1 25 = .ok (.iload_n 1, 1) := by decide +kernel
theorem d_DM_placeOf_26 : decode M_DM_placeOf.2.1 26 = .ok (.if_icmp .ne 7, 3) := by decide +kernel
theorem d_DM_placeOf_29 : decode M_DM_placeOf.2.1 29 = .ok (.iload_n 2, 1) := by decide +kernel
theorem d_DM_placeOf_30 : decode M_DM_placeOf.2.1 30 = .ok (.goto 4, 3) := by decide +kernel
theorem d_DM_placeOf_33 : decode M_DM_placeOf.2.1 33 = .ok (.iconst (-1), 1) := by decide +kernel
theorem d_DM_placeOf_34 : decode M_DM_placeOf.2.1 34 = .ok (.ireturn, 1) := by decide +kernel
theorem k_DM_placeOf : x_kV M_DM_placeOf "QuestionReader$Dimension" 1 := ⟨⟨by decide, Or.inl ⟨w_973, rfl⟩⟩, w_971, w_972, ⟨by decide, by decide⟩, by decide +kernel⟩
def M_CT_dimensionOf : x_M := (⟨"QuestionReader$Catalog", "dimensionOf", "(I)I"⟩, prog_2_method_10_code, 1, some (.int), [])
theorem d_CT_dimensionOf_0 : decode M_CT_dimensionOf.2.1 0 = .ok (.iload_n 0, 1) := by decide +kernel
theorem d_CT_dimensionOf_1 : decode M_CT_dimensionOf.2.1 1 = .ok (.iconst 4, 1) := by decide +kernel
theorem d_CT_dimensionOf_2 : decode M_CT_dimensionOf.2.1 2 = .ok (.idiv, 1) := by decide +kernel
theorem d_CT_dimensionOf_3 : decode M_CT_dimensionOf.2.1 3 = .ok (.ireturn, 1) := by decide +kernel
theorem k_CT_dimensionOf : x_kS M_CT_dimensionOf 1 := ⟨⟨by decide, Or.inl ⟨w_987, rfl⟩⟩, w_986, w_6, ⟨by decide, by decide⟩, by decide +kernel⟩
def M_CT_levelOf : x_M := (⟨"QuestionReader$Catalog", "levelOf", "(I)I"⟩, prog_2_method_11_code, 1, some (.int), [])
theorem d_CT_levelOf_0 : decode M_CT_levelOf.2.1 0 = .ok (.iload_n 0, 1) := by decide +kernel
theorem d_CT_levelOf_1 : decode M_CT_levelOf.2.1 1 = .ok (.iconst 4, 1) := by decide +kernel
theorem d_CT_levelOf_2 : decode M_CT_levelOf.2.1 2 = .ok (.irem, 1) := by decide +kernel
theorem d_CT_levelOf_3 : decode M_CT_levelOf.2.1 3 = .ok (.ireturn, 1) := by decide +kernel
theorem k_CT_levelOf : x_kS M_CT_levelOf 1 := ⟨⟨by decide, Or.inl ⟨w_990, rfl⟩⟩, w_989, w_6, ⟨by decide, by decide⟩, by decide +kernel⟩
def M_CT_hasName : x_M := (⟨"QuestionReader$Catalog", "hasName", "(I)Z"⟩, prog_2_method_5_code, 3, some (.boolean), [])
theorem d_CT_hasName_0 : decode M_CT_hasName.2.1 0 = .ok (.iload_n 1, 1) := by decide +kernel
theorem d_CT_hasName_1 : decode M_CT_hasName.2.1 1 = .ok (.bipush 8, 2) := by decide +kernel
theorem d_CT_hasName_3 : decode M_CT_hasName.2.1 3 = .ok (.if_icmp .ge 9, 3) := by decide +kernel
theorem d_CT_hasName_6 : decode M_CT_hasName.2.1 6 = .ok (.aload_n 0, 1) := by decide +kernel
theorem d_CT_hasName_7 : decode M_CT_hasName.2.1 7 = .ok (.iload_n 1, 1) := by decide +kernel
theorem d_CT_hasName_8 : decode M_CT_hasName.2.1 8 = .ok (.invokevirtual 29, 3) := by decide +kernel
theorem d_CT_hasName_11 : decode M_CT_hasName.2.1 11 = .ok (.ireturn, 1) := by decide +kernel
theorem d_CT_hasName_12 : decode M_CT_hasName.2.1 12 = .ok (.iload_n 1, 1) := by decide +kernel
theorem d_CT_hasName_13 : decode M_CT_hasName.2.1 13 = .ok (.bipush 40, 2) := by decide +kernel
theorem d_CT_hasName_15 : decode M_CT_hasName.2.1 15 = .ok (.if_icmp .ge 21, 3) := by decide +kernel
theorem d_CT_hasName_18 : decode M_CT_hasName.2.1 18 = .ok (.iload_n 1, 1) := by decide +kernel
theorem d_CT_hasName_19 : decode M_CT_hasName.2.1 19 = .ok (.bipush 8, 2) := by decide +kernel
theorem d_CT_hasName_21 : decode M_CT_hasName.2.1 21 = .ok (.isub, 1) := by decide +kernel
theorem d_CT_hasName_22 : decode M_CT_hasName.2.1 22 = .ok (.istore_n 2, 1) := by decide +kernel
theorem d_CT_hasName_23 : decode M_CT_hasName.2.1 23 = .ok (.aload_n 0, 1) := by decide +kernel
theorem d_CT_hasName_24 : decode M_CT_hasName.2.1 24 = .ok (.iload_n 2, 1) := by decide +kernel
theorem d_CT_hasName_25 : decode M_CT_hasName.2.1 25 = .ok (.invokestatic 39, 3) := by decide +kernel
theorem d_CT_hasName_28 : decode M_CT_hasName.2.1 28 = .ok (.iload_n 2, 1) := by decide +kernel
theorem d_CT_hasName_29 : decode M_CT_hasName.2.1 29 = .ok (.invokestatic 43, 3) := by decide +kernel
theorem d_CT_hasName_32 : decode M_CT_hasName.2.1 32 = .ok (.invokevirtual 46, 3) := by decide +kernel
theorem d_CT_hasName_35 : decode M_CT_hasName.2.1 35 = .ok (.ireturn, 1) := by decide +kernel
theorem d_CT_hasName_36 : decode M_CT_hasName.2.1 36 = .ok (.iload_n 1, 1) := by decide +kernel
theorem d_CT_hasName_37 : decode M_CT_hasName.2.1 37 = .ok (.bipush 40, 2) := by decide +kernel
theorem d_CT_hasName_39 : decode M_CT_hasName.2.1 39 = .ok (.isub, 1) := by decide +kernel
theorem d_CT_hasName_40 : decode M_CT_hasName.2.1 40 = .ok (.aload_n 0, 1) := by decide +kernel
theorem d_CT_hasName_41 : decode M_CT_hasName.2.1 41 = .ok (.getfield 50, 3) := by decide +kernel
theorem d_CT_hasName_44 : decode M_CT_hasName.2.1 44 = .ok (.if_icmp .ge 7, 3) := by decide +kernel
theorem d_CT_hasName_47 : decode M_CT_hasName.2.1 47 = .ok (.iconst 1, 1) := by decide +kernel
theorem d_CT_hasName_48 : decode M_CT_hasName.2.1 48 = .ok (.goto 4, 3) := by decide +kernel
theorem d_CT_hasName_51 : decode M_CT_hasName.2.1 51 = .ok (.iconst 0, 1) := by decide +kernel
theorem d_CT_hasName_52 : decode M_CT_hasName.2.1 52 = .ok (.ireturn, 1) := by decide +kernel
theorem k_CT_hasName : x_kV M_CT_hasName "QuestionReader$Catalog" 1 := ⟨⟨by decide, Or.inl ⟨w_984, rfl⟩⟩, w_982, w_983, ⟨by decide, by decide⟩, by decide +kernel⟩
def M_NM_letterAt : x_M := (⟨"QuestionReader$Names", "letterAt", "(II)I"⟩, prog_9_method_3_code, 3, some (.int), [])
theorem d_NM_letterAt_0 : decode M_NM_letterAt.2.1 0 = .ok (.iload_n 2, 1) := by decide +kernel
theorem d_NM_letterAt_1 : decode M_NM_letterAt.2.1 1 = .ok (.aload_n 0, 1) := by decide +kernel
theorem d_NM_letterAt_2 : decode M_NM_letterAt.2.1 2 = .ok (.getfield 15, 3) := by decide +kernel
theorem d_NM_letterAt_5 : decode M_NM_letterAt.2.1 5 = .ok (.iload_n 1, 1) := by decide +kernel
theorem d_NM_letterAt_6 : decode M_NM_letterAt.2.1 6 = .ok (.iaload, 1) := by decide +kernel
theorem d_NM_letterAt_7 : decode M_NM_letterAt.2.1 7 = .ok (.if_icmp .ge 17, 3) := by decide +kernel
theorem d_NM_letterAt_10 : decode M_NM_letterAt.2.1 10 = .ok (.aload_n 0, 1) := by decide +kernel
theorem d_NM_letterAt_11 : decode M_NM_letterAt.2.1 11 = .ok (.getfield 11, 3) := by decide +kernel
theorem d_NM_letterAt_14 : decode M_NM_letterAt.2.1 14 = .ok (.iload_n 1, 1) := by decide +kernel
theorem d_NM_letterAt_15 : decode M_NM_letterAt.2.1 15 = .ok (.bipush 40, 2) := by decide +kernel
theorem d_NM_letterAt_17 : decode M_NM_letterAt.2.1 17 = .ok (.imul, 1) := by decide +kernel
theorem d_NM_letterAt_18 : decode M_NM_letterAt.2.1 18 = .ok (.iload_n 2, 1) := by decide +kernel
theorem d_NM_letterAt_19 : decode M_NM_letterAt.2.1 19 = .ok (.iadd, 1) := by decide +kernel
theorem d_NM_letterAt_20 : decode M_NM_letterAt.2.1 20 = .ok (.baload, 1) := by decide +kernel
theorem d_NM_letterAt_21 : decode M_NM_letterAt.2.1 21 = .ok (.goto 4, 3) := by decide +kernel
theorem d_NM_letterAt_24 : decode M_NM_letterAt.2.1 24 = .ok (.iconst (-1), 1) := by decide +kernel
theorem d_NM_letterAt_25 : decode M_NM_letterAt.2.1 25 = .ok (.ireturn, 1) := by decide +kernel
theorem k_NM_letterAt : x_kV M_NM_letterAt "QuestionReader$Names" 2 := ⟨⟨by decide, Or.inl ⟨w_995, rfl⟩⟩, w_993, w_994, ⟨by decide, by decide⟩, by decide +kernel⟩
def M_CP_isListed : x_M := (⟨"QuestionReader$Comparison", "isListed", "(I)Z"⟩, prog_4_method_7_code, 3, some (.boolean), [])
theorem d_CP_isListed_0 : decode M_CP_isListed.2.1 0 = .ok (.iconst 0, 1) := by decide +kernel
theorem d_CP_isListed_1 : decode M_CP_isListed.2.1 1 = .ok (.istore_n 2, 1) := by decide +kernel
theorem d_CP_isListed_2 : decode M_CP_isListed.2.1 2 = .ok (.iload_n 2, 1) := by decide +kernel
theorem d_CP_isListed_3 : decode M_CP_isListed.2.1 3 = .ok (.aload_n 0, 1) := by decide +kernel
theorem d_CP_isListed_4 : decode M_CP_isListed.2.1 4 = .ok (.getfield 21, 3) := by decide +kernel
theorem d_CP_isListed_7 : decode M_CP_isListed.2.1 7 = .ok (.if_icmp .ge 21, 3) := by decide +kernel
theorem d_CP_isListed_10 : decode M_CP_isListed.2.1 10 = .ok (.aload_n 0, 1) := by decide +kernel
theorem d_CP_isListed_11 : decode M_CP_isListed.2.1 11 = .ok (.getfield 9, 3) := by decide +kernel
theorem d_CP_isListed_14 : decode M_CP_isListed.2.1 14 = .ok (.iload_n 2, 1) := by decide +kernel
theorem d_CP_isListed_15 : decode M_CP_isListed.2.1 15 = .ok (.iaload, 1) := by decide +kernel
theorem d_CP_isListed_16 : decode M_CP_isListed.2.1 16 = .ok (.iload_n 1, 1) := by decide +kernel
theorem d_CP_isListed_17 : decode M_CP_isListed.2.1 17 = .ok (.if_icmp .ne 5, 3) := by decide +kernel
theorem d_CP_isListed_20 : decode M_CP_isListed.2.1 20 = .ok (.iconst 1, 1) := by decide +kernel
theorem d_CP_isListed_21 : decode M_CP_isListed.2.1 21 = .ok (.ireturn, 1) := by decide +kernel
theorem d_CP_isListed_22 : decode M_CP_isListed.2.1 22 = .ok (.iinc 2 1, 3) := by decide +kernel
theorem d_CP_isListed_25 : decode M_CP_isListed.2.1 25 = .ok (.goto (-23), 3) := by decide +kernel
theorem d_CP_isListed_28 : decode M_CP_isListed.2.1 28 = .ok (.iconst 0, 1) := by decide +kernel
theorem d_CP_isListed_29 : decode M_CP_isListed.2.1 29 = .ok (.ireturn, 1) := by decide +kernel
theorem k_CP_isListed : x_kV M_CP_isListed "QuestionReader$Comparison" 1 := ⟨⟨by decide, Or.inl ⟨w_1052, rfl⟩⟩, w_1051, ws_35, ⟨by decide, by decide⟩, by decide +kernel⟩
def M_CP_accepts : x_M := (⟨"QuestionReader$Comparison", "accepts", "(I)Z"⟩, prog_4_method_6_code, 3, some (.boolean), [])
theorem d_CP_accepts_0 : decode M_CP_accepts.2.1 0 = .ok (.aload_n 0, 1) := by decide +kernel
theorem d_CP_accepts_1 : decode M_CP_accepts.2.1 1 = .ok (.getfield 21, 3) := by decide +kernel
theorem d_CP_accepts_4 : decode M_CP_accepts.2.1 4 = .ok (.ifCond .ne 27, 3) := by decide +kernel
theorem d_CP_accepts_7 : decode M_CP_accepts.2.1 7 = .ok (.aload_n 0, 1) := by decide +kernel
theorem d_CP_accepts_8 : decode M_CP_accepts.2.1 8 = .ok (.getfield 24, 3) := by decide +kernel
theorem d_CP_accepts_11 : decode M_CP_accepts.2.1 11 = .ok (.iload_n 1, 1) := by decide +kernel
theorem d_CP_accepts_12 : decode M_CP_accepts.2.1 12 = .ok (.if_icmp .gt 15, 3) := by decide +kernel
theorem d_CP_accepts_15 : decode M_CP_accepts.2.1 15 = .ok (.iload_n 1, 1) := by decide +kernel
theorem d_CP_accepts_16 : decode M_CP_accepts.2.1 16 = .ok (.aload_n 0, 1) := by decide +kernel
theorem d_CP_accepts_17 : decode M_CP_accepts.2.1 17 = .ok (.getfield 27, 3) := by decide +kernel
theorem d_CP_accepts_20 : decode M_CP_accepts.2.1 20 = .ok (.if_icmp .gt 7, 3) := by decide +kernel
theorem d_CP_accepts_23 : decode M_CP_accepts.2.1 23 = .ok (.iconst 1, 1) := by decide +kernel
theorem d_CP_accepts_24 : decode M_CP_accepts.2.1 24 = .ok (.goto 12, 3) := by decide +kernel
theorem d_CP_accepts_27 : decode M_CP_accepts.2.1 27 = .ok (.iconst 0, 1) := by decide +kernel
theorem d_CP_accepts_28 : decode M_CP_accepts.2.1 28 = .ok (.goto 8, 3) := by decide +kernel
theorem d_CP_accepts_31 : decode M_CP_accepts.2.1 31 = .ok (.aload_n 0, 1) := by decide +kernel
theorem d_CP_accepts_32 : decode M_CP_accepts.2.1 32 = .ok (.iload_n 1, 1) := by decide +kernel
theorem d_CP_accepts_33 : decode M_CP_accepts.2.1 33 = .ok (.invokevirtual 52, 3) := by decide +kernel
theorem d_CP_accepts_36 : decode M_CP_accepts.2.1 36 = .ok (.istore_n 2, 1) := by decide +kernel
theorem d_CP_accepts_37 : decode M_CP_accepts.2.1 37 = .ok (.iload_n 2, 1) := by decide +kernel
theorem d_CP_accepts_38 : decode M_CP_accepts.2.1 38 = .ok (.aload_n 0, 1) := by decide +kernel
theorem d_CP_accepts_39 : decode M_CP_accepts.2.1 39 = .ok (.getfield 17, 3) := by decide +kernel
theorem d_CP_accepts_42 : decode M_CP_accepts.2.1 42 = .ok (.if_icmp .eq 7, 3) := by decide +kernel
theorem d_CP_accepts_45 : decode M_CP_accepts.2.1 45 = .ok (.iconst 1, 1) := by decide +kernel
theorem d_CP_accepts_46 : decode M_CP_accepts.2.1 46 = .ok (.goto 4, 3) := by decide +kernel
theorem d_CP_accepts_49 : decode M_CP_accepts.2.1 49 = .ok (.iconst 0, 1) := by decide +kernel
theorem d_CP_accepts_50 : decode M_CP_accepts.2.1 50 = .ok (.ireturn, 1) := by decide +kernel
theorem k_CP_accepts : x_kV M_CP_accepts "QuestionReader$Comparison" 1 := ⟨⟨by decide, Or.inl ⟨w_1048, rfl⟩⟩, w_1046, w_1047, ⟨by decide, by decide⟩, by decide +kernel⟩
def M_CT_pickedValue : x_M := (⟨"QuestionReader$Catalog", "pickedValue", "(I)I"⟩, prog_2_method_8_code, 3, some (.int), [])
theorem d_CT_pickedValue_0 : decode M_CT_pickedValue.2.1 0 = .ok (.aload_n 0, 1) := by decide +kernel
theorem d_CT_pickedValue_1 : decode M_CT_pickedValue.2.1 1 = .ok (.getfield 20, 3) := by decide +kernel
theorem d_CT_pickedValue_4 : decode M_CT_pickedValue.2.1 4 = .ok (.iload_n 1, 1) := by decide +kernel
theorem d_CT_pickedValue_5 : decode M_CT_pickedValue.2.1 5 = .ok (.invokestatic 39, 3) := by decide +kernel
theorem d_CT_pickedValue_8 : decode M_CT_pickedValue.2.1 8 = .ok (.aaload, 1) := by decide +kernel
theorem d_CT_pickedValue_9 : decode M_CT_pickedValue.2.1 9 = .ok (.astore_n 2, 1) := by decide +kernel
theorem d_CT_pickedValue_10 : decode M_CT_pickedValue.2.1 10 = .ok (.aload_n 2, 1) := by decide +kernel
theorem d_CT_pickedValue_11 : decode M_CT_pickedValue.2.1 11 = .ok (.iload_n 1, 1) := by decide +kernel
theorem d_CT_pickedValue_12 : decode M_CT_pickedValue.2.1 12 = .ok (.invokestatic 43, 3) := by decide +kernel
theorem d_CT_pickedValue_15 : decode M_CT_pickedValue.2.1 15 = .ok (.aload_n 2, 1) := by decide +kernel
theorem d_CT_pickedValue_16 : decode M_CT_pickedValue.2.1 16 = .ok (.getfield 64, 3) := by decide +kernel
theorem d_CT_pickedValue_19 : decode M_CT_pickedValue.2.1 19 = .ok (.invokevirtual 67, 3) := by decide +kernel
theorem d_CT_pickedValue_22 : decode M_CT_pickedValue.2.1 22 = .ok (.ireturn, 1) := by decide +kernel
theorem k_CT_pickedValue : x_kV M_CT_pickedValue "QuestionReader$Catalog" 1 := ⟨⟨by decide, Or.inl ⟨w_1043, rfl⟩⟩, w_1041, w_1042, ⟨by decide, by decide⟩, by decide +kernel⟩
def M_CN_isTrueFor : x_M := (⟨"QuestionReader$Condition", "isTrueFor", "(LQuestionReader$Catalog;)Z"⟩, prog_5_method_11_code, 6, some (.boolean), [])
theorem d_CN_isTrueFor_0 : decode M_CN_isTrueFor.2.1 0 = .ok (.aload_n 0, 1) := by decide +kernel
theorem d_CN_isTrueFor_1 : decode M_CN_isTrueFor.2.1 1 = .ok (.getfield 44, 3) := by decide +kernel
theorem d_CN_isTrueFor_4 : decode M_CN_isTrueFor.2.1 4 = .ok (.ifCond .ne 5, 3) := by decide +kernel
theorem d_CN_isTrueFor_7 : decode M_CN_isTrueFor.2.1 7 = .ok (.iconst 1, 1) := by decide +kernel
theorem d_CN_isTrueFor_8 : decode M_CN_isTrueFor.2.1 8 = .ok (.ireturn, 1) := by decide +kernel
theorem d_CN_isTrueFor_9 : decode M_CN_isTrueFor.2.1 9 = .ok (.iconst 0, 1) := by decide +kernel
theorem d_CN_isTrueFor_10 : decode M_CN_isTrueFor.2.1 10 = .ok (.istore_n 2, 1) := by decide +kernel
theorem d_CN_isTrueFor_11 : decode M_CN_isTrueFor.2.1 11 = .ok (.iload_n 2, 1) := by decide +kernel
theorem d_CN_isTrueFor_12 : decode M_CN_isTrueFor.2.1 12 = .ok (.aload_n 0, 1) := by decide +kernel
theorem d_CN_isTrueFor_13 : decode M_CN_isTrueFor.2.1 13 = .ok (.getfield 44, 3) := by decide +kernel
theorem d_CN_isTrueFor_16 : decode M_CN_isTrueFor.2.1 16 = .ok (.if_icmp .ge 53, 3) := by decide +kernel
theorem d_CN_isTrueFor_19 : decode M_CN_isTrueFor.2.1 19 = .ok (.aload_n 1, 1) := by decide +kernel
theorem d_CN_isTrueFor_20 : decode M_CN_isTrueFor.2.1 20 = .ok (.aload_n 0, 1) := by decide +kernel
theorem d_CN_isTrueFor_21 : decode M_CN_isTrueFor.2.1 21 = .ok (.getfield 13, 3) := by decide +kernel
theorem d_CN_isTrueFor_24 : decode M_CN_isTrueFor.2.1 24 = .ok (.iload_n 2, 1) := by decide +kernel
theorem d_CN_isTrueFor_25 : decode M_CN_isTrueFor.2.1 25 = .ok (.aaload, 1) := by decide +kernel
theorem d_CN_isTrueFor_26 : decode M_CN_isTrueFor.2.1 26 = .ok (.getfield 65, 3) := by decide +kernel
theorem d_CN_isTrueFor_29 : decode M_CN_isTrueFor.2.1 29 = .ok (.invokevirtual 68, 3) := by decide +kernel
theorem d_CN_isTrueFor_32 : decode M_CN_isTrueFor.2.1 32 = .ok (.istore_n 3, 1) := by decide +kernel
theorem d_CN_isTrueFor_33 : decode M_CN_isTrueFor.2.1 33 = .ok (.aload_n 0, 1) := by decide +kernel
theorem d_CN_isTrueFor_34 : decode M_CN_isTrueFor.2.1 34 = .ok (.getfield 31, 3) := by decide +kernel
theorem d_CN_isTrueFor_37 : decode M_CN_isTrueFor.2.1 37 = .ok (.iload_n 2, 1) := by decide +kernel
theorem d_CN_isTrueFor_38 : decode M_CN_isTrueFor.2.1 38 = .ok (.aload_n 0, 1) := by decide +kernel
theorem d_CN_isTrueFor_39 : decode M_CN_isTrueFor.2.1 39 = .ok (.getfield 13, 3) := by decide +kernel
theorem d_CN_isTrueFor_42 : decode M_CN_isTrueFor.2.1 42 = .ok (.iload_n 2, 1) := by decide +kernel
theorem d_CN_isTrueFor_43 : decode M_CN_isTrueFor.2.1 43 = .ok (.aaload, 1) := by decide +kernel
theorem d_CN_isTrueFor_44 : decode M_CN_isTrueFor.2.1 44 = .ok (.iload_n 3, 1) := by decide +kernel
theorem d_CN_isTrueFor_45 : decode M_CN_isTrueFor.2.1 45 = .ok (.invokevirtual 74, 3) := by decide +kernel
theorem d_CN_isTrueFor_48 : decode M_CN_isTrueFor.2.1 48 = .ok (.aload_n 0, 1) := by decide +kernel
theorem d_CN_isTrueFor_49 : decode M_CN_isTrueFor.2.1 49 = .ok (.getfield 28, 3) := by decide +kernel
theorem d_CN_isTrueFor_52 : decode M_CN_isTrueFor.2.1 52 = .ok (.iload_n 2, 1) := by decide +kernel
theorem d_CN_isTrueFor_53 : decode M_CN_isTrueFor.2.1 53 = .ok (.baload, 1) := by decide +kernel
theorem d_CN_isTrueFor_54 : decode M_CN_isTrueFor.2.1 54 = .ok (.if_icmp .eq 7, 3) := by decide +kernel
theorem d_CN_isTrueFor_57 : decode M_CN_isTrueFor.2.1 57 = .ok (.iconst 1, 1) := by decide +kernel
theorem d_CN_isTrueFor_58 : decode M_CN_isTrueFor.2.1 58 = .ok (.goto 4, 3) := by decide +kernel
theorem d_CN_isTrueFor_61 : decode M_CN_isTrueFor.2.1 61 = .ok (.iconst 0, 1) := by decide +kernel
theorem d_CN_isTrueFor_62 : decode M_CN_isTrueFor.2.1 62 = .ok (.bastore, 1) := by decide +kernel
theorem d_CN_isTrueFor_63 : decode M_CN_isTrueFor.2.1 63 = .ok (.iinc 2 1, 3) := by decide +kernel
theorem d_CN_isTrueFor_66 : decode M_CN_isTrueFor.2.1 66 = .ok (.goto (-55), 3) := by decide +kernel
theorem d_CN_isTrueFor_69 : decode M_CN_isTrueFor.2.1 69 = .ok (.iconst 0, 1) := by decide +kernel
theorem d_CN_isTrueFor_70 : decode M_CN_isTrueFor.2.1 70 = .ok (.istore_n 2, 1) := by decide +kernel
theorem d_CN_isTrueFor_71 : decode M_CN_isTrueFor.2.1 71 = .ok (.iload_n 2, 1) := by decide +kernel
theorem d_CN_isTrueFor_72 : decode M_CN_isTrueFor.2.1 72 = .ok (.aload_n 0, 1) := by decide +kernel
theorem d_CN_isTrueFor_73 : decode M_CN_isTrueFor.2.1 73 = .ok (.getfield 48, 3) := by decide +kernel
theorem d_CN_isTrueFor_76 : decode M_CN_isTrueFor.2.1 76 = .ok (.if_icmp .ge 102, 3) := by decide +kernel
theorem d_CN_isTrueFor_79 : decode M_CN_isTrueFor.2.1 79 = .ok (.aload_n 0, 1) := by decide +kernel
theorem d_CN_isTrueFor_80 : decode M_CN_isTrueFor.2.1 80 = .ok (.getfield 31, 3) := by decide +kernel
theorem d_CN_isTrueFor_83 : decode M_CN_isTrueFor.2.1 83 = .ok (.aload_n 0, 1) := by decide +kernel
theorem d_CN_isTrueFor_84 : decode M_CN_isTrueFor.2.1 84 = .ok (.getfield 17, 3) := by decide +kernel
theorem d_CN_isTrueFor_87 : decode M_CN_isTrueFor.2.1 87 = .ok (.iload_n 2, 1) := by decide +kernel
theorem d_CN_isTrueFor_88 : decode M_CN_isTrueFor.2.1 88 = .ok (.iaload, 1) := by decide +kernel
theorem d_CN_isTrueFor_89 : decode M_CN_isTrueFor.2.1 89 = .ok (.baload, 1) := by decide +kernel
theorem d_CN_isTrueFor_90 : decode M_CN_isTrueFor.2.1 90 = .ok (.istore_n 3, 1) := by decide +kernel
theorem d_CN_isTrueFor_91 : decode M_CN_isTrueFor.2.1 91 = .ok (.aload_n 0, 1) := by decide +kernel
theorem d_CN_isTrueFor_92 : decode M_CN_isTrueFor.2.1 92 = .ok (.getfield 31, 3) := by decide +kernel
theorem d_CN_isTrueFor_95 : decode M_CN_isTrueFor.2.1 95 = .ok (.aload_n 0, 1) := by decide +kernel
theorem d_CN_isTrueFor_96 : decode M_CN_isTrueFor.2.1 96 = .ok (.getfield 21, 3) := by decide +kernel
theorem d_CN_isTrueFor_99 : decode M_CN_isTrueFor.2.1 99 = .ok (.iload_n 2, 1) := by decide +kernel
theorem d_CN_isTrueFor_100 : decode M_CN_isTrueFor.2.1 100 = .ok (.iaload, 1) := by decide +kernel
theorem d_CN_isTrueFor_101 : decode M_CN_isTrueFor.2.1 101 = .ok (.baload, 1) := by decide +kernel
theorem d_CN_isTrueFor_102 : decode M_CN_isTrueFor.2.1 102 = .ok (.istore 4, 2) := by decide +kernel
theorem d_CN_isTrueFor_104 : decode M_CN_isTrueFor.2.1 104 = .ok (.bipush 60, 2) := by decide +kernel
theorem d_CN_isTrueFor_106 : decode M_CN_isTrueFor.2.1 106 = .ok (.iload_n 2, 1) := by decide +kernel
theorem d_CN_isTrueFor_107 : decode M_CN_isTrueFor.2.1 107 = .ok (.iadd, 1) := by decide +kernel
theorem d_CN_isTrueFor_108 : decode M_CN_isTrueFor.2.1 108 = .ok (.istore 5, 2) := by decide +kernel
theorem d_CN_isTrueFor_110 : decode M_CN_isTrueFor.2.1 110 = .ok (.aload_n 0, 1) := by decide +kernel
theorem d_CN_isTrueFor_111 : decode M_CN_isTrueFor.2.1 111 = .ok (.getfield 31, 3) := by decide +kernel
theorem d_CN_isTrueFor_114 : decode M_CN_isTrueFor.2.1 114 = .ok (.iload 5, 2) := by decide +kernel
theorem d_CN_isTrueFor_116 : decode M_CN_isTrueFor.2.1 116 = .ok (.aload_n 0, 1) := by decide +kernel
theorem d_CN_isTrueFor_117 : decode M_CN_isTrueFor.2.1 117 = .ok (.getfield 24, 3) := by decide +kernel
theorem d_CN_isTrueFor_120 : decode M_CN_isTrueFor.2.1 120 = .ok (.iload_n 2, 1) := by decide +kernel
theorem d_CN_isTrueFor_121 : decode M_CN_isTrueFor.2.1 121 = .ok (.baload, 1) := by decide +kernel
theorem d_CN_isTrueFor_122 : decode M_CN_isTrueFor.2.1 122 = .ok (.ifCond .eq 20, 3) := by decide +kernel
theorem d_CN_isTrueFor_125 : decode M_CN_isTrueFor.2.1 125 = .ok (.iload_n 3, 1) := by decide +kernel
theorem d_CN_isTrueFor_126 : decode M_CN_isTrueFor.2.1 126 = .ok (.ifCond .eq 12, 3) := by decide +kernel
theorem d_CN_isTrueFor_129 : decode M_CN_isTrueFor.2.1 129 = .ok (.iload 4, 2) := by decide +kernel
theorem d_CN_isTrueFor_131 : decode M_CN_isTrueFor.2.1 131 = .ok (.ifCond .eq 7, 3) := by decide +kernel
theorem d_CN_isTrueFor_134 : decode M_CN_isTrueFor.2.1 134 = .ok (.iconst 1, 1) := by decide +kernel
theorem d_CN_isTrueFor_135 : decode M_CN_isTrueFor.2.1 135 = .ok (.goto 21, 3) := by decide +kernel
theorem d_CN_isTrueFor_138 : decode M_CN_isTrueFor.2.1 138 = .ok (.iconst 0, 1) := by decide +kernel
theorem d_CN_isTrueFor_139 : decode M_CN_isTrueFor.2.1 139 = .ok (.goto 17, 3) := by decide +kernel
theorem d_CN_isTrueFor_142 : decode M_CN_isTrueFor.2.1 142 = .ok (.iload_n 3, 1) := by decide +kernel
theorem d_CN_isTrueFor_143 : decode M_CN_isTrueFor.2.1 143 = .ok (.ifCond .ne 8, 3) := by decide +kernel
theorem d_CN_isTrueFor_146 : decode M_CN_isTrueFor.2.1 146 = .ok (.iload 4, 2) := by decide +kernel
theorem d_CN_isTrueFor_148 : decode M_CN_isTrueFor.2.1 148 = .ok (.ifCond .eq 7, 3) := by decide +kernel
theorem d_CN_isTrueFor_151 : decode M_CN_isTrueFor.2.1 151 = .ok (.iconst 1, 1) := by decide +kernel
theorem d_CN_isTrueFor_152 : decode M_CN_isTrueFor.2.1 152 = .ok (.goto 4, 3) := by decide +kernel
theorem d_CN_isTrueFor_155 : decode M_CN_isTrueFor.2.1 155 = .ok (.iconst 0, 1) := by decide +kernel
theorem d_CN_isTrueFor_156 : decode M_CN_isTrueFor.2.1 156 = .ok (.aload_n 0, 1) := by decide +kernel
theorem d_CN_isTrueFor_157 : decode M_CN_isTrueFor.2.1 157 = .ok (.getfield 28, 3) := by decide +kernel
theorem d_CN_isTrueFor_160 : decode M_CN_isTrueFor.2.1 160 = .ok (.iload 5, 2) := by decide +kernel
theorem d_CN_isTrueFor_162 : decode M_CN_isTrueFor.2.1 162 = .ok (.baload, 1) := by decide +kernel
theorem d_CN_isTrueFor_163 : decode M_CN_isTrueFor.2.1 163 = .ok (.if_icmp .eq 7, 3) := by decide +kernel
theorem d_CN_isTrueFor_166 : decode M_CN_isTrueFor.2.1 166 = .ok (.iconst 1, 1) := by decide +kernel
theorem d_CN_isTrueFor_167 : decode M_CN_isTrueFor.2.1 167 = .ok (.goto 4, 3) := by decide +kernel
theorem d_CN_isTrueFor_170 : decode M_CN_isTrueFor.2.1 170 = .ok (.iconst 0, 1) := by decide +kernel
theorem d_CN_isTrueFor_171 : decode M_CN_isTrueFor.2.1 171 = .ok (.bastore, 1) := by decide +kernel
theorem d_CN_isTrueFor_172 : decode M_CN_isTrueFor.2.1 172 = .ok (.iinc 2 1, 3) := by decide +kernel
theorem d_CN_isTrueFor_175 : decode M_CN_isTrueFor.2.1 175 = .ok (.goto (-104), 3) := by decide +kernel
theorem d_CN_isTrueFor_178 : decode M_CN_isTrueFor.2.1 178 = .ok (.aload_n 0, 1) := by decide +kernel
theorem d_CN_isTrueFor_179 : decode M_CN_isTrueFor.2.1 179 = .ok (.getfield 31, 3) := by decide +kernel
theorem d_CN_isTrueFor_182 : decode M_CN_isTrueFor.2.1 182 = .ok (.aload_n 0, 1) := by decide +kernel
theorem d_CN_isTrueFor_183 : decode M_CN_isTrueFor.2.1 183 = .ok (.getfield 48, 3) := by decide +kernel
theorem d_CN_isTrueFor_186 : decode M_CN_isTrueFor.2.1 186 = .ok (.ifCond .ne 7, 3) := by decide +kernel
theorem d_CN_isTrueFor_189 : decode M_CN_isTrueFor.2.1 189 = .ok (.iconst 0, 1) := by decide +kernel
theorem d_CN_isTrueFor_190 : decode M_CN_isTrueFor.2.1 190 = .ok (.goto 12, 3) := by decide +kernel
theorem d_CN_isTrueFor_193 : decode M_CN_isTrueFor.2.1 193 = .ok (.bipush 60, 2) := by decide +kernel
theorem d_CN_isTrueFor_195 : decode M_CN_isTrueFor.2.1 195 = .ok (.aload_n 0, 1) := by decide +kernel
theorem d_CN_isTrueFor_196 : decode M_CN_isTrueFor.2.1 196 = .ok (.getfield 48, 3) := by decide +kernel
theorem d_CN_isTrueFor_199 : decode M_CN_isTrueFor.2.1 199 = .ok (.iadd, 1) := by decide +kernel
theorem d_CN_isTrueFor_200 : decode M_CN_isTrueFor.2.1 200 = .ok (.iconst 1, 1) := by decide +kernel
theorem d_CN_isTrueFor_201 : decode M_CN_isTrueFor.2.1 201 = .ok (.isub, 1) := by decide +kernel
theorem d_CN_isTrueFor_202 : decode M_CN_isTrueFor.2.1 202 = .ok (.baload, 1) := by decide +kernel
theorem d_CN_isTrueFor_203 : decode M_CN_isTrueFor.2.1 203 = .ok (.ireturn, 1) := by decide +kernel
theorem k_CN_isTrueFor : x_kV M_CN_isTrueFor "QuestionReader$Condition" 1 := ⟨⟨by decide, Or.inl ⟨w_1039, rfl⟩⟩, w_1037, w_1038, ⟨by decide, by decide⟩, by decide +kernel⟩
def B_CP_becomeRelation_97 (p : Nat)  (s0 : Int32) (m : x_m) : Option (x_m) := some (x_wS m p 3 s0)
theorem b_CP_becomeRelation_97 {G : x_G} {ex : Bool} {r : x_m} {p : Nat} (hp : x_CP p)  {s0 : Int32} {m : x_m} (h : B_CP_becomeRelation_97 p s0 m = some r) : x_W G M_CP_becomeRelation (x_rd 0) (x_Q G (x_rd 0) ex (x_pv r)) ex x_np (x_hp m) 0 0 [] [.int s0, .ref p] 97 := by
  unfold B_CP_becomeRelation_97 at h
  refine x_pI d_CP_becomeRelation_97 (f_CP_27 rfl) tb_CP rfl (sh_CP hp) (hp_CP hp) rfl ⟨rfl, rfl⟩ ?_
  cases h
  exact x_rv d_CP_becomeRelation_100 rfl
def B_CP_becomeRelation_82 (p : Nat)  (l2 : Int32) (l4 : Int32) (s0 : Int32) (m : x_m) : Option (x_m) := (if l4 = 0 then B_CP_becomeRelation_97 p l2 (x_wS m p 2 s0) else B_CP_becomeRelation_97 p 2147483647 (x_wS m p 2 s0))
theorem b_CP_becomeRelation_82 {G : x_G} {ex : Bool} {r : x_m} {p : Nat} (hp : x_CP p)  {l2 : Int32} {l4 : Int32} {s0 : Int32} {m : x_m} (h : B_CP_becomeRelation_82 p l2 l4 s0 m = some r) : x_W G M_CP_becomeRelation (x_rd 0) (x_Q G (x_rd 0) ex (x_pv r)) ex x_np (x_hp m) 0 0 [(0, .ref p), (2, .int l2), (4, .int l4)] [.int s0, .ref p] 82 := by
  unfold B_CP_becomeRelation_82 at h
  refine x_pI d_CP_becomeRelation_82 (f_CP_24 rfl) tb_CP rfl (sh_CP hp) (hp_CP hp) rfl ⟨rfl, rfl⟩ ?_
  refine x_aload_n d_CP_becomeRelation_85 rfl rfl ?_
  refine x_iload d_CP_becomeRelation_86 rfl ?_
  refine x_if_eq (tgt := 96) d_CP_becomeRelation_88 (by decide) (fun c_ => ?_) (fun c_ => ?_)
  · replace h := x_it h c_
    refine x_iload_n d_CP_becomeRelation_96 rfl rfl ?_
    refine x_sbk [] (lv2 := []) rfl ?_; exact b_CP_becomeRelation_97 hp h
  · replace h := x_ie h c_
    refine x_ldc (v := 2147483647) d_CP_becomeRelation_91 w_610 ?_
    refine x_goto (tgt := 97) d_CP_becomeRelation_93 (by decide) ?_
    refine x_sbk [] (lv2 := []) rfl ?_; exact b_CP_becomeRelation_97 hp h
def B_CP_becomeRelation_69 (p : Nat)  (l2 : Int32) (l3 : Int32) (s0 : Int32) (m : x_m) : Option (x_m) := (if l3 = 0 then B_CP_becomeRelation_82 p l2 s0 l2 m else B_CP_becomeRelation_82 p l2 s0 ((-2147483648)) m)
theorem b_CP_becomeRelation_69 {G : x_G} {ex : Bool} {r : x_m} {p : Nat} (hp : x_CP p)  {l2 : Int32} {l3 : Int32} {s0 : Int32} {m : x_m} (h : B_CP_becomeRelation_69 p l2 l3 s0 m = some r) : x_W G M_CP_becomeRelation (x_rd 0) (x_Q G (x_rd 0) ex (x_pv r)) ex x_np (x_hp m) 0 0 [(0, .ref p), (2, .int l2), (3, .int l3)] [.int s0] 69 := by
  unfold B_CP_becomeRelation_69 at h
  refine x_istore (lv2 := [(0, .ref p), (2, .int l2), (3, .int l3), (4, .int s0)]) d_CP_becomeRelation_69 (by decide) rfl ?_
  refine x_aload_n d_CP_becomeRelation_71 rfl rfl ?_
  refine x_iload_n d_CP_becomeRelation_72 rfl rfl ?_
  refine x_if_eq (tgt := 81) d_CP_becomeRelation_73 (by decide) (fun c_ => ?_) (fun c_ => ?_)
  · replace h := x_it h c_
    refine x_iload_n d_CP_becomeRelation_81 rfl rfl ?_
    refine x_sbk [0, 1, 3] (lv2 := [(0, .ref p), (2, .int l2), (4, .int s0)]) rfl ?_; exact b_CP_becomeRelation_82 hp h
  · replace h := x_ie h c_
    refine x_ldc (v := (-2147483648)) d_CP_becomeRelation_76 w_609 ?_
    refine x_goto (tgt := 82) d_CP_becomeRelation_78 (by decide) ?_
    refine x_sbk [0, 1, 3] (lv2 := [(0, .ref p), (2, .int l2), (4, .int s0)]) rfl ?_; exact b_CP_becomeRelation_82 hp h
def B_CP_becomeRelation_64 (p : Nat)  (l2 : Int32) (l3 : Int32) (m : x_m) : Option (x_m) := B_CP_becomeRelation_69 p l2 l3 1 m
theorem b_CP_becomeRelation_64 {G : x_G} {ex : Bool} {r : x_m} {p : Nat} (hp : x_CP p)  {l2 : Int32} {l3 : Int32} {m : x_m} (h : B_CP_becomeRelation_64 p l2 l3 m = some r) : x_W G M_CP_becomeRelation (x_rd 0) (x_Q G (x_rd 0) ex (x_pv r)) ex x_np (x_hp m) 0 0 [(0, .ref p), (2, .int l2), (3, .int l3)] [] 64 := by
  unfold B_CP_becomeRelation_64 at h
  refine x_iconst (v := 1) d_CP_becomeRelation_64 (by decide) ?_
  refine x_goto (tgt := 69) d_CP_becomeRelation_65 (by decide) ?_
  exact b_CP_becomeRelation_69 hp h
def B_CP_becomeRelation_49 (p : Nat)  (l1 : Nat) (l2 : Int32) (s0 : Int32) (m : x_m) : Option (x_m) := (if x_kv l1 = true then (if l1 = (x_N + 16) then B_CP_becomeRelation_64 p l2 s0 m else (if x_kv l1 = true then (if l1 = (x_N + 13) then B_CP_becomeRelation_64 p l2 s0 m else B_CP_becomeRelation_69 p l2 s0 0 m) else none)) else none)
theorem b_CP_becomeRelation_49 {G : x_G} {ex : Bool} {r : x_m} {p : Nat} (hp : x_CP p)  {l1 : Nat} {l2 : Int32} {s0 : Int32} {m : x_m} (h : B_CP_becomeRelation_49 p l1 l2 s0 m = some r) : x_W G M_CP_becomeRelation (x_rd 0) (x_Q G (x_rd 0) ex (x_pv r)) ex x_np (x_hp m) 0 0 [(0, .ref p), (1, .ref l1), (2, .int l2)] [.int s0] 49 := by
  unfold B_CP_becomeRelation_49 at h
  refine x_istore_n (lv2 := [(0, .ref p), (1, .ref l1), (2, .int l2), (3, .int s0)]) d_CP_becomeRelation_49 rfl (by decide) rfl ?_
  refine x_aload_n d_CP_becomeRelation_50 rfl rfl ?_
  refine x_gets (i := 16) d_CP_becomeRelation_51 (by decide) w_608 ?_
  obtain ⟨g_54_0, h⟩ := x_gd h
  refine x_kacmp_eq (tgt := 64) d_CP_becomeRelation_54 (by decide) g_54_0 (x_kvN 16 (by decide)) (fun c_ => ?_) (fun c_ => ?_)
  · replace h := x_it h c_
    refine x_sbk [0, 2, 3] (lv2 := [(0, .ref p), (2, .int l2), (3, .int s0)]) rfl ?_; exact b_CP_becomeRelation_64 hp h
  · replace h := x_ie h c_
    refine x_aload_n d_CP_becomeRelation_57 rfl rfl ?_
    refine x_gets (i := 13) d_CP_becomeRelation_58 (by decide) w_605 ?_
    obtain ⟨g_61_0, h⟩ := x_gd h
    refine x_kacmp_ne (tgt := 68) d_CP_becomeRelation_61 (by decide) g_61_0 (x_kvN 13 (by decide)) (fun c_ => ?_) (fun c_ => ?_)
    · replace h := x_ie h c_
      refine x_iconst (v := 0) d_CP_becomeRelation_68 (by decide) ?_
      refine x_sbk [0, 2, 3] (lv2 := [(0, .ref p), (2, .int l2), (3, .int s0)]) rfl ?_; exact b_CP_becomeRelation_69 hp h
    · replace h := x_it h c_
      refine x_sbk [0, 2, 3] (lv2 := [(0, .ref p), (2, .int l2), (3, .int s0)]) rfl ?_; exact b_CP_becomeRelation_64 hp h
def B_CP_becomeRelation_44 (p : Nat)  (l1 : Nat) (l2 : Int32) (m : x_m) : Option (x_m) := B_CP_becomeRelation_49 p l1 l2 1 m
theorem b_CP_becomeRelation_44 {G : x_G} {ex : Bool} {r : x_m} {p : Nat} (hp : x_CP p)  {l1 : Nat} {l2 : Int32} {m : x_m} (h : B_CP_becomeRelation_44 p l1 l2 m = some r) : x_W G M_CP_becomeRelation (x_rd 0) (x_Q G (x_rd 0) ex (x_pv r)) ex x_np (x_hp m) 0 0 [(0, .ref p), (1, .ref l1), (2, .int l2)] [] 44 := by
  unfold B_CP_becomeRelation_44 at h
  refine x_iconst (v := 1) d_CP_becomeRelation_44 (by decide) ?_
  refine x_goto (tgt := 49) d_CP_becomeRelation_45 (by decide) ?_
  exact b_CP_becomeRelation_49 hp h
def B_CP_becomeRelation_27 (p : Nat)  (l1 : Nat) (l2 : Int32) (s0 : Int32) (m : x_m) : Option (x_m) := (if x_b1 s0 = true then (if x_kv l1 = true then (if l1 = (x_N + 14) then B_CP_becomeRelation_44 p l1 l2 (x_wS m p 1 s0) else (if x_kv l1 = true then (if l1 = (x_N + 15) then B_CP_becomeRelation_44 p l1 l2 (x_wS m p 1 s0) else B_CP_becomeRelation_49 p l1 l2 0 (x_wS m p 1 s0)) else none)) else none) else none)
theorem b_CP_becomeRelation_27 {G : x_G} {ex : Bool} {r : x_m} {p : Nat} (hp : x_CP p)  {l1 : Nat} {l2 : Int32} {s0 : Int32} {m : x_m} (h : B_CP_becomeRelation_27 p l1 l2 s0 m = some r) : x_W G M_CP_becomeRelation (x_rd 0) (x_Q G (x_rd 0) ex (x_pv r)) ex x_np (x_hp m) 0 0 [(0, .ref p), (1, .ref l1), (2, .int l2)] [.int s0, .ref p] 27 := by
  unfold B_CP_becomeRelation_27 at h
  obtain ⟨g_27, h⟩ := x_gd h
  refine x_pI d_CP_becomeRelation_27 (f_CP_17 rfl) tb_CP rfl (sh_CP hp) (hp_CP hp) rfl (x_b1_ok g_27) ?_
  refine x_aload_n d_CP_becomeRelation_30 rfl rfl ?_
  refine x_gets (i := 14) d_CP_becomeRelation_31 (by decide) w_607 ?_
  obtain ⟨g_34_0, h⟩ := x_gd h
  refine x_kacmp_eq (tgt := 44) d_CP_becomeRelation_34 (by decide) g_34_0 (x_kvN 14 (by decide)) (fun c_ => ?_) (fun c_ => ?_)
  · replace h := x_it h c_
    exact b_CP_becomeRelation_44 hp h
  · replace h := x_ie h c_
    refine x_aload_n d_CP_becomeRelation_37 rfl rfl ?_
    refine x_gets (i := 15) d_CP_becomeRelation_38 (by decide) w_606 ?_
    obtain ⟨g_41_0, h⟩ := x_gd h
    refine x_kacmp_ne (tgt := 48) d_CP_becomeRelation_41 (by decide) g_41_0 (x_kvN 15 (by decide)) (fun c_ => ?_) (fun c_ => ?_)
    · replace h := x_ie h c_
      refine x_iconst (v := 0) d_CP_becomeRelation_48 (by decide) ?_
      exact b_CP_becomeRelation_49 hp h
    · replace h := x_it h c_
      exact b_CP_becomeRelation_44 hp h
def B_CP_becomeRelation_22 (p : Nat)  (l1 : Nat) (l2 : Int32) (m : x_m) : Option (x_m) := B_CP_becomeRelation_27 p l1 l2 1 m
theorem b_CP_becomeRelation_22 {G : x_G} {ex : Bool} {r : x_m} {p : Nat} (hp : x_CP p)  {l1 : Nat} {l2 : Int32} {m : x_m} (h : B_CP_becomeRelation_22 p l1 l2 m = some r) : x_W G M_CP_becomeRelation (x_rd 0) (x_Q G (x_rd 0) ex (x_pv r)) ex x_np (x_hp m) 0 0 [(0, .ref p), (1, .ref l1), (2, .int l2)] [.ref p] 22 := by
  unfold B_CP_becomeRelation_22 at h
  refine x_iconst (v := 1) d_CP_becomeRelation_22 (by decide) ?_
  refine x_goto (tgt := 27) d_CP_becomeRelation_23 (by decide) ?_
  exact b_CP_becomeRelation_27 hp h
def F_CP_becomeRelation (p : Nat) (a1 : Nat) (a2 : Int32) (m : x_m) : Option (x_m) := (if x_kv a1 = true then (if a1 = (x_N + 12) then B_CP_becomeRelation_22 p a1 a2 m else (if x_kv a1 = true then (if a1 = (x_N + 13) then B_CP_becomeRelation_22 p a1 a2 m else (if x_kv a1 = true then (if a1 = (x_N + 15) then B_CP_becomeRelation_22 p a1 a2 m else B_CP_becomeRelation_27 p a1 a2 0 m) else none)) else none)) else none)
theorem c_CP_becomeRelation {G : x_G} {ex : Bool} {r : x_m} {p : Nat} (hp : x_CP p) {a1 : Nat} {a2 : Int32} {m : x_m} (h : F_CP_becomeRelation p a1 a2 m = some r) : x_R G M_CP_becomeRelation (x_rd 0) ex [.ref p, .ref a1, .int a2] x_np (x_hp m) (x_pv r) := by
  unfold F_CP_becomeRelation at h
  show x_W G M_CP_becomeRelation (x_rd 0) (x_Q G (x_rd 0) ex (x_pv r)) ex x_np (x_hp m) 0 0 [(0, .ref p), (1, .ref a1), (2, .int a2)] [] 0
  refine x_aload_n d_CP_becomeRelation_0 rfl rfl ?_
  refine x_aload_n d_CP_becomeRelation_1 rfl rfl ?_
  refine x_gets (i := 12) d_CP_becomeRelation_2 (by decide) w_604 ?_
  obtain ⟨g_5_0, h⟩ := x_gd h
  refine x_kacmp_eq (tgt := 22) d_CP_becomeRelation_5 (by decide) g_5_0 (x_kvN 12 (by decide)) (fun c_ => ?_) (fun c_ => ?_)
  · replace h := x_it h c_
    exact b_CP_becomeRelation_22 hp h
  · replace h := x_ie h c_
    refine x_aload_n d_CP_becomeRelation_8 rfl rfl ?_
    refine x_gets (i := 13) d_CP_becomeRelation_9 (by decide) w_605 ?_
    obtain ⟨g_12_0, h⟩ := x_gd h
    refine x_kacmp_eq (tgt := 22) d_CP_becomeRelation_12 (by decide) g_12_0 (x_kvN 13 (by decide)) (fun c_ => ?_) (fun c_ => ?_)
    · replace h := x_it h c_
      exact b_CP_becomeRelation_22 hp h
    · replace h := x_ie h c_
      refine x_aload_n d_CP_becomeRelation_15 rfl rfl ?_
      refine x_gets (i := 15) d_CP_becomeRelation_16 (by decide) w_606 ?_
      obtain ⟨g_19_0, h⟩ := x_gd h
      refine x_kacmp_ne (tgt := 26) d_CP_becomeRelation_19 (by decide) g_19_0 (x_kvN 15 (by decide)) (fun c_ => ?_) (fun c_ => ?_)
      · replace h := x_ie h c_
        refine x_iconst (v := 0) d_CP_becomeRelation_26 (by decide) ?_
        exact b_CP_becomeRelation_27 hp h
      · replace h := x_it h c_
        exact b_CP_becomeRelation_22 hp h
def B_QG_isRelation_47   (s0 : Int32) (m : x_m) : Option (Int32 × x_m) := (if x_b1 s0 = true then some (s0, m) else none)
theorem b_QG_isRelation_47 {G : x_G} {ex : Bool} {r : Int32 × x_m}   {s0 : Int32} {m : x_m} (h : B_QG_isRelation_47 s0 m = some r) : x_W G M_QG_isRelation (x_rd 0) (x_Q G (x_rd 0) ex (x_pi r)) ex x_np (x_hp m) 0 0 [] [.int s0] 47 := by
  unfold B_QG_isRelation_47 at h
  obtain ⟨g_47, h⟩ := x_gd h
  cases h
  exact x_ri d_QG_isRelation_47 rfl (x_b1_ok g_47).1
def B_QG_isRelation_42    (m : x_m) : Option (Int32 × x_m) := B_QG_isRelation_47 1 m
theorem b_QG_isRelation_42 {G : x_G} {ex : Bool} {r : Int32 × x_m}    {m : x_m} (h : B_QG_isRelation_42 m = some r) : x_W G M_QG_isRelation (x_rd 0) (x_Q G (x_rd 0) ex (x_pi r)) ex x_np (x_hp m) 0 0 [] [] 42 := by
  unfold B_QG_isRelation_42 at h
  refine x_iconst (v := 1) d_QG_isRelation_42 (by decide) ?_
  refine x_goto (tgt := 47) d_QG_isRelation_43 (by decide) ?_
  exact b_QG_isRelation_47 h
def F_QG_isRelation  (a0 : Nat) (m : x_m) : Option (Int32 × x_m) := (if x_kv a0 = true then (if a0 = (x_N + 11) then B_QG_isRelation_42 m else (if x_kv a0 = true then (if a0 = (x_N + 12) then B_QG_isRelation_42 m else (if x_kv a0 = true then (if a0 = (x_N + 13) then B_QG_isRelation_42 m else (if x_kv a0 = true then (if a0 = (x_N + 14) then B_QG_isRelation_42 m else (if x_kv a0 = true then (if a0 = (x_N + 15) then B_QG_isRelation_42 m else (if x_kv a0 = true then (if a0 = (x_N + 16) then B_QG_isRelation_42 m else B_QG_isRelation_47 0 m) else none)) else none)) else none)) else none)) else none)) else none)
theorem c_QG_isRelation {G : x_G} {ex : Bool} {r : Int32 × x_m}  {a0 : Nat} {m : x_m} (h : F_QG_isRelation a0 m = some r) : x_R G M_QG_isRelation (x_rd 0) ex [.ref a0] x_np (x_hp m) (x_pi r) := by
  unfold F_QG_isRelation at h
  show x_W G M_QG_isRelation (x_rd 0) (x_Q G (x_rd 0) ex (x_pi r)) ex x_np (x_hp m) 0 0 [(0, .ref a0)] [] 0
  refine x_aload_n d_QG_isRelation_0 rfl rfl ?_
  refine x_gets (i := 11) d_QG_isRelation_1 (by decide) w_584 ?_
  obtain ⟨g_4_0, h⟩ := x_gd h
  refine x_kacmp_eq (tgt := 42) d_QG_isRelation_4 (by decide) g_4_0 (x_kvN 11 (by decide)) (fun c_ => ?_) (fun c_ => ?_)
  · replace h := x_it h c_
    refine x_sbk [] (lv2 := []) rfl ?_; exact b_QG_isRelation_42 h
  · replace h := x_ie h c_
    refine x_aload_n d_QG_isRelation_7 rfl rfl ?_
    refine x_gets (i := 12) d_QG_isRelation_8 (by decide) w_586 ?_
    obtain ⟨g_11_0, h⟩ := x_gd h
    refine x_kacmp_eq (tgt := 42) d_QG_isRelation_11 (by decide) g_11_0 (x_kvN 12 (by decide)) (fun c_ => ?_) (fun c_ => ?_)
    · replace h := x_it h c_
      refine x_sbk [] (lv2 := []) rfl ?_; exact b_QG_isRelation_42 h
    · replace h := x_ie h c_
      refine x_aload_n d_QG_isRelation_14 rfl rfl ?_
      refine x_gets (i := 13) d_QG_isRelation_15 (by decide) w_588 ?_
      obtain ⟨g_18_0, h⟩ := x_gd h
      refine x_kacmp_eq (tgt := 42) d_QG_isRelation_18 (by decide) g_18_0 (x_kvN 13 (by decide)) (fun c_ => ?_) (fun c_ => ?_)
      · replace h := x_it h c_
        refine x_sbk [] (lv2 := []) rfl ?_; exact b_QG_isRelation_42 h
      · replace h := x_ie h c_
        refine x_aload_n d_QG_isRelation_21 rfl rfl ?_
        refine x_gets (i := 14) d_QG_isRelation_22 (by decide) w_590 ?_
        obtain ⟨g_25_0, h⟩ := x_gd h
        refine x_kacmp_eq (tgt := 42) d_QG_isRelation_25 (by decide) g_25_0 (x_kvN 14 (by decide)) (fun c_ => ?_) (fun c_ => ?_)
        · replace h := x_it h c_
          refine x_sbk [] (lv2 := []) rfl ?_; exact b_QG_isRelation_42 h
        · replace h := x_ie h c_
          refine x_aload_n d_QG_isRelation_28 rfl rfl ?_
          refine x_gets (i := 15) d_QG_isRelation_29 (by decide) w_592 ?_
          obtain ⟨g_32_0, h⟩ := x_gd h
          refine x_kacmp_eq (tgt := 42) d_QG_isRelation_32 (by decide) g_32_0 (x_kvN 15 (by decide)) (fun c_ => ?_) (fun c_ => ?_)
          · replace h := x_it h c_
            refine x_sbk [] (lv2 := []) rfl ?_; exact b_QG_isRelation_42 h
          · replace h := x_ie h c_
            refine x_aload_n d_QG_isRelation_35 rfl rfl ?_
            refine x_gets (i := 16) d_QG_isRelation_36 (by decide) w_594 ?_
            obtain ⟨g_39_0, h⟩ := x_gd h
            refine x_kacmp_ne (tgt := 46) d_QG_isRelation_39 (by decide) g_39_0 (x_kvN 16 (by decide)) (fun c_ => ?_) (fun c_ => ?_)
            · replace h := x_ie h c_
              refine x_iconst (v := 0) d_QG_isRelation_46 (by decide) ?_
              refine x_sbk [] (lv2 := []) rfl ?_; exact b_QG_isRelation_47 h
            · replace h := x_it h c_
              refine x_sbk [] (lv2 := []) rfl ?_; exact b_QG_isRelation_42 h
def B_QU_firstUngrouped_59 (p : Nat) (K2 : Int32 → x_m → Option (Int32 × x_m)) (l1 : Int32) (m : x_m) : Option (Int32 × x_m) := K2 (l1 + 1) m
theorem b_QU_firstUngrouped_59 {G : x_G} {ex : Bool} {r : Int32 × x_m} {p : Nat} (hp : x_QB p) {K2 : Int32 → x_m → Option (Int32 × x_m)} (hK2 : ∀ (l1 : Int32) (m : x_m), K2 l1 m = some r → x_W G M_QU_firstUngrouped (x_rd 1) (x_Q G (x_rd 1) ex (x_pi r)) ex x_np (x_hp m) 0 0 [(0, .ref p), (1, .int l1)] [] 2) {l1 : Int32} {m : x_m} (h : B_QU_firstUngrouped_59 p K2 l1 m = some r) : x_W G M_QU_firstUngrouped (x_rd 1) (x_Q G (x_rd 1) ex (x_pi r)) ex x_np (x_hp m) 0 0 [(0, .ref p), (1, .int l1)] [] 59 := by
  unfold B_QU_firstUngrouped_59 at h
  refine x_iinc (v := l1 + 1) (lv2 := [(0, .ref p), (1, .int (l1 + 1))]) d_QU_firstUngrouped_59 rfl rfl (by decide) rfl ?_
  refine x_goto (tgt := 2) d_QU_firstUngrouped_62 (by decide) ?_
  exact hK2 _ _ h
def B_QU_firstUngrouped_34 (p : Nat) (K2 : Int32 → x_m → Option (Int32 × x_m)) (l1 : Int32) (s0 : Int32) (m : x_m) : Option (Int32 × x_m) := (if s0 = 0 then B_QU_firstUngrouped_59 p K2 l1 m else (if x_ix l1 24 = true then ((F_QU_hasColumn p (m.2.1 (p + 2) l1.toNatClampNeg) m).bind fun r46 => (if r46.1 = 0 then (if x_ix l1 24 = true then some (r46.2.2.1 (p + 3) l1.toNatClampNeg, r46.2) else none) else B_QU_firstUngrouped_59 p K2 l1 r46.2)) else none))
theorem b_QU_firstUngrouped_34 {G : x_G} {ex : Bool} {r : Int32 × x_m} {p : Nat} (hp : x_QB p) {K2 : Int32 → x_m → Option (Int32 × x_m)} (hK2 : ∀ (l1 : Int32) (m : x_m), K2 l1 m = some r → x_W G M_QU_firstUngrouped (x_rd 1) (x_Q G (x_rd 1) ex (x_pi r)) ex x_np (x_hp m) 0 0 [(0, .ref p), (1, .int l1)] [] 2) {l1 : Int32} {s0 : Int32} {m : x_m} (h : B_QU_firstUngrouped_34 p K2 l1 s0 m = some r) : x_W G M_QU_firstUngrouped (x_rd 1) (x_Q G (x_rd 1) ex (x_pi r)) ex x_np (x_hp m) 0 0 [(0, .ref p), (1, .int l1)] [.int s0] 34 := by
  unfold B_QU_firstUngrouped_34 at h
  refine x_istore_n (lv2 := [(0, .ref p), (1, .int l1), (2, .int s0)]) d_QU_firstUngrouped_34 rfl (by decide) rfl ?_
  refine x_iload_n d_QU_firstUngrouped_35 rfl rfl ?_
  refine x_if_eq (tgt := 59) d_QU_firstUngrouped_36 (by decide) (fun c_ => ?_) (fun c_ => ?_)
  · replace h := x_it h c_
    refine x_sbk [0, 1] (lv2 := [(0, .ref p), (1, .int l1)]) rfl ?_; exact b_QU_firstUngrouped_59 hp hK2 h
  · replace h := x_ie h c_
    refine x_aload_n d_QU_firstUngrouped_39 rfl rfl ?_
    refine x_aload_n d_QU_firstUngrouped_40 rfl rfl ?_
    refine x_gC d_QU_firstUngrouped_41 (f_QU_15 rfl) (sh_QU hp) (hp_QU hp) rfl ?_
    refine x_iload_n d_QU_firstUngrouped_44 rfl rfl ?_
    obtain ⟨g_45, h⟩ := x_gd h
    refine x_lI d_QU_firstUngrouped_45 rfl (sa_QU_itemTargets hp) (ha_QU_itemTargets hp) g_45 ?_
    obtain ⟨r46, e46, h⟩ := x_bd h
    refine x_cVi (M2 := M_QU_hasColumn) (As := [.int (m.2.1 (p + 2) l1.toNatClampNeg)]) (st := []) d_QU_firstUngrouped_46 w_685 k_QU_hasColumn (c_QU_hasColumn hp e46) rfl (sh_QU hp) (hp_QU hp) rfl ⟨Nat.le_of_ble_eq_true rfl, Nat.le_of_ble_eq_true rfl⟩ (Nat.le_of_ble_eq_true rfl) (Nat.le_of_ble_eq_true rfl) rfl ?_
    refine x_if_ne (tgt := 59) d_QU_firstUngrouped_49 (by decide) (fun c_ => ?_) (fun c_ => ?_)
    · replace h := x_ie h c_
      refine x_sbk [0, 1] (lv2 := [(0, .ref p), (1, .int l1)]) rfl ?_; exact b_QU_firstUngrouped_59 hp hK2 h
    · replace h := x_it h c_
      refine x_aload_n d_QU_firstUngrouped_52 rfl rfl ?_
      refine x_gC d_QU_firstUngrouped_53 (f_QU_18 rfl) (sh_QU hp) (hp_QU hp) rfl ?_
      refine x_iload_n d_QU_firstUngrouped_56 rfl rfl ?_
      obtain ⟨g_57, h⟩ := x_gd h
      refine x_lI d_QU_firstUngrouped_57 rfl (sa_QU_itemPlaces hp) (ha_QU_itemPlaces hp) g_57 ?_
      cases h
      exact x_ri d_QU_firstUngrouped_58 rfl rfl
def B_QU_firstUngrouped_29 (p : Nat) (K2 : Int32 → x_m → Option (Int32 × x_m)) (l1 : Int32) (m : x_m) : Option (Int32 × x_m) := B_QU_firstUngrouped_34 p K2 l1 1 m
theorem b_QU_firstUngrouped_29 {G : x_G} {ex : Bool} {r : Int32 × x_m} {p : Nat} (hp : x_QB p) {K2 : Int32 → x_m → Option (Int32 × x_m)} (hK2 : ∀ (l1 : Int32) (m : x_m), K2 l1 m = some r → x_W G M_QU_firstUngrouped (x_rd 1) (x_Q G (x_rd 1) ex (x_pi r)) ex x_np (x_hp m) 0 0 [(0, .ref p), (1, .int l1)] [] 2) {l1 : Int32} {m : x_m} (h : B_QU_firstUngrouped_29 p K2 l1 m = some r) : x_W G M_QU_firstUngrouped (x_rd 1) (x_Q G (x_rd 1) ex (x_pi r)) ex x_np (x_hp m) 0 0 [(0, .ref p), (1, .int l1)] [] 29 := by
  unfold B_QU_firstUngrouped_29 at h
  refine x_iconst (v := 1) d_QU_firstUngrouped_29 (by decide) ?_
  refine x_goto (tgt := 34) d_QU_firstUngrouped_30 (by decide) ?_
  exact b_QU_firstUngrouped_34 hp hK2 h
def B_QU_firstUngrouped_2 (p : Nat)  : Nat → Int32 → x_m → Option (Int32 × x_m)
  | 0, _, _ => none
  | f_ + 1, l1, m => (if (m.1 p 0) ≤ l1 then some ((-1), m) else (if x_ix l1 24 = true then (if (m.2.1 (p + 1) l1.toNatClampNeg) = 0 then B_QU_firstUngrouped_29 p (B_QU_firstUngrouped_2 p f_) l1 m else (if x_ix l1 24 = true then (if (m.2.1 (p + 1) l1.toNatClampNeg) = 5 then B_QU_firstUngrouped_29 p (B_QU_firstUngrouped_2 p f_) l1 m else B_QU_firstUngrouped_34 p (B_QU_firstUngrouped_2 p f_) l1 0 m) else none)) else none))
theorem b_QU_firstUngrouped_2 {G : x_G} {ex : Bool} {r : Int32 × x_m} {p : Nat} (hp : x_QB p)  : ∀ (f_ : Nat) (l1 : Int32) (m : x_m), B_QU_firstUngrouped_2 p f_ l1 m = some r → x_W G M_QU_firstUngrouped (x_rd 1) (x_Q G (x_rd 1) ex (x_pi r)) ex x_np (x_hp m) 0 0 [(0, .ref p), (1, .int l1)] [] 2 := by
  intro f_
  induction f_ with
  | zero => intro l1 m h; exact nomatch h
  | succ f_ ih =>
    intro l1 m h
    rw [B_QU_firstUngrouped_2] at h
    have hK2 := ih
    refine x_iload_n d_QU_firstUngrouped_2 rfl rfl ?_
    refine x_aload_n d_QU_firstUngrouped_3 rfl rfl ?_
    refine x_gI d_QU_firstUngrouped_4 (f_QU_34 rfl) (sh_QU hp) (hp_QU hp) rfl ?_
    refine x_icmp_ge (tgt := 65) d_QU_firstUngrouped_7 (by decide) (fun c_ => ?_) (fun c_ => ?_)
    · replace h := x_it h c_
      refine x_iconst (v := (-1)) d_QU_firstUngrouped_65 (by decide) ?_
      cases h
      exact x_ri d_QU_firstUngrouped_66 rfl rfl
    · replace h := x_ie h c_
      refine x_aload_n d_QU_firstUngrouped_10 rfl rfl ?_
      refine x_gC d_QU_firstUngrouped_11 (f_QU_11 rfl) (sh_QU hp) (hp_QU hp) rfl ?_
      refine x_iload_n d_QU_firstUngrouped_14 rfl rfl ?_
      obtain ⟨g_15, h⟩ := x_gd h
      refine x_lI d_QU_firstUngrouped_15 rfl (sa_QU_itemTypes hp) (ha_QU_itemTypes hp) g_15 ?_
      refine x_if_eq (tgt := 29) d_QU_firstUngrouped_16 (by decide) (fun c_ => ?_) (fun c_ => ?_)
      · replace h := x_it h c_
        exact b_QU_firstUngrouped_29 hp hK2 h
      · replace h := x_ie h c_
        refine x_aload_n d_QU_firstUngrouped_19 rfl rfl ?_
        refine x_gC d_QU_firstUngrouped_20 (f_QU_11 rfl) (sh_QU hp) (hp_QU hp) rfl ?_
        refine x_iload_n d_QU_firstUngrouped_23 rfl rfl ?_
        obtain ⟨g_24, h⟩ := x_gd h
        refine x_lI d_QU_firstUngrouped_24 rfl (sa_QU_itemTypes hp) (ha_QU_itemTypes hp) g_24 ?_
        refine x_iconst (v := 5) d_QU_firstUngrouped_25 (by decide) ?_
        refine x_icmp_ne (tgt := 33) d_QU_firstUngrouped_26 (by decide) (fun c_ => ?_) (fun c_ => ?_)
        · replace h := x_ie h c_
          refine x_iconst (v := 0) d_QU_firstUngrouped_33 (by decide) ?_
          exact b_QU_firstUngrouped_34 hp hK2 h
        · replace h := x_it h c_
          exact b_QU_firstUngrouped_29 hp hK2 h
def F_QU_firstUngrouped (p : Nat)  (m : x_m) : Option (Int32 × x_m) := B_QU_firstUngrouped_2 p x_fu 0 m
theorem c_QU_firstUngrouped {G : x_G} {ex : Bool} {r : Int32 × x_m} {p : Nat} (hp : x_QB p)  {m : x_m} (h : F_QU_firstUngrouped p m = some r) : x_R G M_QU_firstUngrouped (x_rd 1) ex [.ref p] x_np (x_hp m) (x_pi r) := by
  unfold F_QU_firstUngrouped at h
  show x_W G M_QU_firstUngrouped (x_rd 1) (x_Q G (x_rd 1) ex (x_pi r)) ex x_np (x_hp m) 0 0 [(0, .ref p)] [] 0
  refine x_iconst (v := 0) d_QU_firstUngrouped_0 (by decide) ?_
  refine x_istore_n (lv2 := [(0, .ref p), (1, .int 0)]) d_QU_firstUngrouped_1 rfl (by decide) rfl ?_
  exact b_QU_firstUngrouped_2 hp _ _ _ h
def F_CN_clear (p : Nat)  (m : x_m) : Option (x_m) := ((F_CN_clearLine p (x_wS (x_wS (x_wS m p 0 0) p 3 0) p 1 0)).bind fun r16 => some r16)
theorem c_CN_clear {G : x_G} {ex : Bool} {r : x_m} {p : Nat} (hp : x_CN p)  {m : x_m} (h : F_CN_clear p m = some r) : x_R G M_CN_clear (x_rd 1) ex [.ref p] x_np (x_hp m) (x_pv r) := by
  unfold F_CN_clear at h
  show x_W G M_CN_clear (x_rd 1) (x_Q G (x_rd 1) ex (x_pv r)) ex x_np (x_hp m) 0 0 [(0, .ref p)] [] 0
  refine x_aload_n d_CN_clear_0 rfl rfl ?_
  refine x_iconst (v := 0) d_CN_clear_1 (by decide) ?_
  refine x_pI d_CN_clear_2 (f_CN_44 rfl) tb_CN rfl (sh_CN hp) (hp_CN hp) rfl ⟨rfl, rfl⟩ ?_
  refine x_aload_n d_CN_clear_5 rfl rfl ?_
  refine x_iconst (v := 0) d_CN_clear_6 (by decide) ?_
  refine x_pI d_CN_clear_7 (f_CN_48 rfl) tb_CN rfl (sh_CN hp) (hp_CN hp) rfl ⟨rfl, rfl⟩ ?_
  refine x_aload_n d_CN_clear_10 rfl rfl ?_
  refine x_iconst (v := 0) d_CN_clear_11 (by decide) ?_
  refine x_pI d_CN_clear_12 (f_CN_51 rfl) tb_CN rfl (sh_CN hp) (hp_CN hp) rfl ⟨rfl, rfl⟩ ?_
  refine x_aload_n d_CN_clear_15 rfl rfl ?_
  obtain ⟨r16, e16, h⟩ := x_bd h
  refine x_cVv (M2 := M_CN_clearLine) (As := []) (st := []) d_CN_clear_16 w_382 k_CN_clearLine (c_CN_clearLine hp e16) rfl (sh_CN hp) (hp_CN hp) rfl ⟨Nat.le_of_ble_eq_true rfl, Nat.le_of_ble_eq_true rfl⟩ (Nat.le_of_ble_eq_true rfl) (Nat.le_of_ble_eq_true rfl) rfl ?_
  cases h
  exact x_rv d_CN_clear_19 rfl
def F_QU_clear (p : Nat)  (m : x_m) : Option (x_m) := ((F_CN_clear (p + 6) (x_wS (x_wS (x_wS m p 0 0) p 4 0) p 6 0)).bind fun r19 => some r19)
theorem c_QU_clear {G : x_G} {ex : Bool} {r : x_m} {p : Nat} (hp : x_QB p)  {m : x_m} (h : F_QU_clear p m = some r) : x_R G M_QU_clear (x_rd 2) ex [.ref p] x_np (x_hp m) (x_pv r) := by
  unfold F_QU_clear at h
  show x_W G M_QU_clear (x_rd 2) (x_Q G (x_rd 2) ex (x_pv r)) ex x_np (x_hp m) 0 0 [(0, .ref p)] [] 0
  refine x_aload_n d_QU_clear_0 rfl rfl ?_
  refine x_iconst (v := 0) d_QU_clear_1 (by decide) ?_
  refine x_pI d_QU_clear_2 (f_QU_34 rfl) tb_QU rfl (sh_QU hp) (hp_QU hp) rfl ⟨rfl, rfl⟩ ?_
  refine x_aload_n d_QU_clear_5 rfl rfl ?_
  refine x_iconst (v := 0) d_QU_clear_6 (by decide) ?_
  refine x_pI d_QU_clear_7 (f_QU_38 rfl) tb_QU rfl (sh_QU hp) (hp_QU hp) rfl ⟨rfl, rfl⟩ ?_
  refine x_aload_n d_QU_clear_10 rfl rfl ?_
  refine x_iconst (v := 0) d_QU_clear_11 (by decide) ?_
  refine x_pI d_QU_clear_12 (f_QU_41 rfl) tb_QU rfl (sh_QU hp) (hp_QU hp) rfl ⟨rfl, rfl⟩ ?_
  refine x_aload_n d_QU_clear_15 rfl rfl ?_
  refine x_gC d_QU_clear_16 (f_QU_30 rfl) (sh_QU hp) (hp_QU hp) rfl ?_
  obtain ⟨r19, e19, h⟩ := x_bd h
  refine x_cVv (M2 := M_CN_clear) (As := []) (st := []) d_QU_clear_19 w_378 k_CN_clear (c_CN_clear (x_CN_of hp) e19) rfl (sh_CN (x_CN_of hp)) (hp_CN (x_CN_of hp)) rfl ⟨Nat.le_of_ble_eq_true rfl, Nat.le_of_ble_eq_true rfl⟩ (Nat.le_of_ble_eq_true rfl) (Nat.le_of_ble_eq_true rfl) rfl ?_
  cases h
  exact x_rv d_QU_clear_22 rfl
def F_QU_restart (p : Nat)  (m : x_m) : Option (x_m) := ((F_QU_clear p m).bind fun r1 => (if x_ix 0 32 = true then some (x_wS (x_wA r1 (p + 5) (0 : Int32).toNatClampNeg 0) p 6 1) else none))
theorem c_QU_restart {G : x_G} {ex : Bool} {r : x_m} {p : Nat} (hp : x_QB p)  {m : x_m} (h : F_QU_restart p m = some r) : x_R G M_QU_restart (x_rd 3) ex [.ref p] x_np (x_hp m) (x_pv r) := by
  unfold F_QU_restart at h
  show x_W G M_QU_restart (x_rd 3) (x_Q G (x_rd 3) ex (x_pv r)) ex x_np (x_hp m) 0 0 [(0, .ref p)] [] 0
  refine x_aload_n d_QU_restart_0 rfl rfl ?_
  obtain ⟨r1, e1, h⟩ := x_bd h
  refine x_cVv (M2 := M_QU_clear) (As := []) (st := []) d_QU_restart_1 w_446 k_QU_clear (c_QU_clear hp e1) rfl (sh_QU hp) (hp_QU hp) rfl ⟨Nat.le_of_ble_eq_true rfl, Nat.le_of_ble_eq_true rfl⟩ (Nat.le_of_ble_eq_true rfl) (Nat.le_of_ble_eq_true rfl) rfl ?_
  refine x_aload_n d_QU_restart_4 rfl rfl ?_
  refine x_gC d_QU_restart_5 (f_QU_24 rfl) (sh_QU hp) (hp_QU hp) rfl ?_
  refine x_iconst (v := 0) d_QU_restart_8 (by decide) ?_
  refine x_iconst (v := 0) d_QU_restart_9 (by decide) ?_
  obtain ⟨g_10, h⟩ := x_gd h
  refine x_sI d_QU_restart_10 rfl (sa_QU_sets hp) (ha_QU_sets hp) g_10 ?_
  refine x_aload_n d_QU_restart_11 rfl rfl ?_
  refine x_iconst (v := 1) d_QU_restart_12 (by decide) ?_
  refine x_pI d_QU_restart_13 (f_QU_41 rfl) tb_QU rfl (sh_QU hp) (hp_QU hp) rfl ⟨rfl, rfl⟩ ?_
  cases h
  exact x_rv d_QU_restart_16 rfl
def B_DM_lowerThan_65 (p : Nat)  (l3 : Int32) (m : x_m) : Option (Int32 × x_m) := some (l3, m)
theorem b_DM_lowerThan_65 {G : x_G} {ex : Bool} {r : Int32 × x_m} {p : Nat} (hp : x_DM p)  {l3 : Int32} {m : x_m} (h : B_DM_lowerThan_65 p l3 m = some r) : x_W G M_DM_lowerThan (x_rd 0) (x_Q G (x_rd 0) ex (x_pi r)) ex x_np (x_hp m) 0 0 [(3, .int l3)] [] 65 := by
  unfold B_DM_lowerThan_65 at h
  refine x_iload_n d_DM_lowerThan_65 rfl rfl ?_
  cases h
  exact x_ri d_DM_lowerThan_66 rfl rfl
def B_DM_lowerThan_59 (p : Nat) (K13 : Int32 → Int32 → Int32 → Int32 → Int32 → x_m → Option (Int32 × x_m)) (l1 : Int32) (l2 : Int32) (l3 : Int32) (l4 : Int32) (l5 : Int32) (m : x_m) : Option (Int32 × x_m) := K13 l1 l2 l3 l4 (l5 + 1) m
theorem b_DM_lowerThan_59 {G : x_G} {ex : Bool} {r : Int32 × x_m} {p : Nat} (hp : x_DM p) {K13 : Int32 → Int32 → Int32 → Int32 → Int32 → x_m → Option (Int32 × x_m)} (hK13 : ∀ (l1 : Int32) (l2 : Int32) (l3 : Int32) (l4 : Int32) (l5 : Int32) (m : x_m), K13 l1 l2 l3 l4 l5 m = some r → x_W G M_DM_lowerThan (x_rd 0) (x_Q G (x_rd 0) ex (x_pi r)) ex x_np (x_hp m) 0 0 [(0, .ref p), (1, .int l1), (2, .int l2), (3, .int l3), (4, .int l4), (5, .int l5)] [] 13) {l1 : Int32} {l2 : Int32} {l3 : Int32} {l4 : Int32} {l5 : Int32} {m : x_m} (h : B_DM_lowerThan_59 p K13 l1 l2 l3 l4 l5 m = some r) : x_W G M_DM_lowerThan (x_rd 0) (x_Q G (x_rd 0) ex (x_pi r)) ex x_np (x_hp m) 0 0 [(0, .ref p), (1, .int l1), (2, .int l2), (3, .int l3), (4, .int l4), (5, .int l5)] [] 59 := by
  unfold B_DM_lowerThan_59 at h
  refine x_iinc (v := l5 + 1) (lv2 := [(0, .ref p), (1, .int l1), (2, .int l2), (3, .int l3), (4, .int l4), (5, .int (l5 + 1))]) d_DM_lowerThan_59 rfl rfl (by decide) rfl ?_
  refine x_goto (tgt := 13) d_DM_lowerThan_62 (by decide) ?_
  exact hK13 _ _ _ _ _ _ h
def B_DM_lowerThan_13 (p : Nat)  : Nat → Int32 → Int32 → Int32 → Int32 → Int32 → x_m → Option (Int32 × x_m)
  | 0, _, _, _, _, _, _ => none
  | f_ + 1, l1, l2, l3, l4, l5, m => (if 32 ≤ l5 then B_DM_lowerThan_65 p l3 m else (if l4 ≤ l3 then B_DM_lowerThan_65 p l3 m else (if x_ix l1 4 = true then (if x_ix (((l3 + l4).toUInt32 >>> ((1 : Int32).toUInt32 &&& Int32.toUInt32 31)).toInt32) 1000 = true then (if l2 ≤ (m.2.1 (p + 8 + l1.toNatClampNeg) (((l3 + l4).toUInt32 >>> ((1 : Int32).toUInt32 &&& Int32.toUInt32 31)).toInt32).toNatClampNeg) then B_DM_lowerThan_59 p (B_DM_lowerThan_13 p f_) l1 l2 l3 (((l3 + l4).toUInt32 >>> ((1 : Int32).toUInt32 &&& Int32.toUInt32 31)).toInt32) l5 m else B_DM_lowerThan_59 p (B_DM_lowerThan_13 p f_) l1 l2 ((((l3 + l4).toUInt32 >>> ((1 : Int32).toUInt32 &&& Int32.toUInt32 31)).toInt32) + 1) l4 l5 m) else none) else none)))
theorem b_DM_lowerThan_13 {G : x_G} {ex : Bool} {r : Int32 × x_m} {p : Nat} (hp : x_DM p)  : ∀ (f_ : Nat) (l1 : Int32) (l2 : Int32) (l3 : Int32) (l4 : Int32) (l5 : Int32) (m : x_m), B_DM_lowerThan_13 p f_ l1 l2 l3 l4 l5 m = some r → x_W G M_DM_lowerThan (x_rd 0) (x_Q G (x_rd 0) ex (x_pi r)) ex x_np (x_hp m) 0 0 [(0, .ref p), (1, .int l1), (2, .int l2), (3, .int l3), (4, .int l4), (5, .int l5)] [] 13 := by
  intro f_
  induction f_ with
  | zero => intro l1 l2 l3 l4 l5 m h; exact nomatch h
  | succ f_ ih =>
    intro l1 l2 l3 l4 l5 m h
    rw [B_DM_lowerThan_13] at h
    have hK13 := ih
    refine x_iload d_DM_lowerThan_13 rfl ?_
    refine x_bipush (v := 32) d_DM_lowerThan_15 (by decide) ?_
    refine x_icmp_ge (tgt := 65) d_DM_lowerThan_17 (by decide) (fun c_ => ?_) (fun c_ => ?_)
    · replace h := x_it h c_
      refine x_sbk [3] (lv2 := [(3, .int l3)]) rfl ?_; exact b_DM_lowerThan_65 hp h
    · replace h := x_ie h c_
      refine x_iload_n d_DM_lowerThan_20 rfl rfl ?_
      refine x_iload d_DM_lowerThan_21 rfl ?_
      refine x_icmp_ge (tgt := 65) d_DM_lowerThan_23 (by decide) (fun c_ => ?_) (fun c_ => ?_)
      · replace h := x_it h c_
        refine x_sbk [3] (lv2 := [(3, .int l3)]) rfl ?_; exact b_DM_lowerThan_65 hp h
      · replace h := x_ie h c_
        refine x_iload_n d_DM_lowerThan_26 rfl rfl ?_
        refine x_iload d_DM_lowerThan_27 rfl ?_
        refine x_iadd d_DM_lowerThan_29 ?_
        refine x_iconst (v := 1) d_DM_lowerThan_30 (by decide) ?_
        refine x_iushr d_DM_lowerThan_31 ?_
        refine x_istore (lv2 := [(0, .ref p), (1, .int l1), (2, .int l2), (3, .int l3), (4, .int l4), (5, .int l5), (6, .int (((l3 + l4).toUInt32 >>> ((1 : Int32).toUInt32 &&& Int32.toUInt32 31)).toInt32))]) d_DM_lowerThan_32 (by decide) rfl ?_
        refine x_aload_n d_DM_lowerThan_34 rfl rfl ?_
        refine x_gC d_DM_lowerThan_35 (f_DM_20 rfl) (sh_DM hp) (hp_DM hp) rfl ?_
        refine x_iload_n d_DM_lowerThan_38 rfl rfl ?_
        obtain ⟨g_39, h⟩ := x_gd h
        refine x_lA (b := p + 8 + l1.toNatClampNeg) d_DM_lowerThan_39 rfl (sa_DM_sorted hp) (ha_DM_sorted hp) g_39 (if_pos (x_ix_lt g_39)) ?_
        refine x_iload d_DM_lowerThan_40 rfl ?_
        obtain ⟨g_42, h⟩ := x_gd h
        refine x_lI d_DM_lowerThan_42 rfl (sa_DM_srow hp (x_ix_lt g_39)) (ha_DM_srow hp (x_ix_lt g_39)) g_42 ?_
        refine x_iload_n d_DM_lowerThan_43 rfl rfl ?_
        refine x_icmp_ge (tgt := 55) d_DM_lowerThan_44 (by decide) (fun c_ => ?_) (fun c_ => ?_)
        · replace h := x_it h c_
          refine x_iload d_DM_lowerThan_55 rfl ?_
          refine x_istore (lv2 := [(0, .ref p), (1, .int l1), (2, .int l2), (3, .int l3), (4, .int (((l3 + l4).toUInt32 >>> ((1 : Int32).toUInt32 &&& Int32.toUInt32 31)).toInt32)), (5, .int l5), (6, .int (((l3 + l4).toUInt32 >>> ((1 : Int32).toUInt32 &&& Int32.toUInt32 31)).toInt32))]) d_DM_lowerThan_57 (by decide) rfl ?_
          refine x_sbk [0, 1, 2, 3, 4, 5] (lv2 := [(0, .ref p), (1, .int l1), (2, .int l2), (3, .int l3), (4, .int (((l3 + l4).toUInt32 >>> ((1 : Int32).toUInt32 &&& Int32.toUInt32 31)).toInt32)), (5, .int l5)]) rfl ?_; exact b_DM_lowerThan_59 hp hK13 h
        · replace h := x_ie h c_
          refine x_iload d_DM_lowerThan_47 rfl ?_
          refine x_iconst (v := 1) d_DM_lowerThan_49 (by decide) ?_
          refine x_iadd d_DM_lowerThan_50 ?_
          refine x_istore_n (lv2 := [(0, .ref p), (1, .int l1), (2, .int l2), (3, .int ((((l3 + l4).toUInt32 >>> ((1 : Int32).toUInt32 &&& Int32.toUInt32 31)).toInt32) + 1)), (4, .int l4), (5, .int l5), (6, .int (((l3 + l4).toUInt32 >>> ((1 : Int32).toUInt32 &&& Int32.toUInt32 31)).toInt32))]) d_DM_lowerThan_51 rfl (by decide) rfl ?_
          refine x_goto (tgt := 59) d_DM_lowerThan_52 (by decide) ?_
          refine x_sbk [0, 1, 2, 3, 4, 5] (lv2 := [(0, .ref p), (1, .int l1), (2, .int l2), (3, .int ((((l3 + l4).toUInt32 >>> ((1 : Int32).toUInt32 &&& Int32.toUInt32 31)).toInt32) + 1)), (4, .int l4), (5, .int l5)]) rfl ?_; exact b_DM_lowerThan_59 hp hK13 h
def F_DM_lowerThan (p : Nat) (a1 : Int32) (a2 : Int32) (m : x_m) : Option (Int32 × x_m) := (if x_ix a1 4 = true then B_DM_lowerThan_13 p x_fu a1 a2 0 (m.2.1 (p + 12) a1.toNatClampNeg) 0 m else none)
theorem c_DM_lowerThan {G : x_G} {ex : Bool} {r : Int32 × x_m} {p : Nat} (hp : x_DM p) {a1 : Int32} {a2 : Int32} {m : x_m} (h : F_DM_lowerThan p a1 a2 m = some r) : x_R G M_DM_lowerThan (x_rd 0) ex [.ref p, .int a1, .int a2] x_np (x_hp m) (x_pi r) := by
  unfold F_DM_lowerThan at h
  show x_W G M_DM_lowerThan (x_rd 0) (x_Q G (x_rd 0) ex (x_pi r)) ex x_np (x_hp m) 0 0 [(0, .ref p), (1, .int a1), (2, .int a2)] [] 0
  refine x_iconst (v := 0) d_DM_lowerThan_0 (by decide) ?_
  refine x_istore_n (lv2 := [(0, .ref p), (1, .int a1), (2, .int a2), (3, .int 0)]) d_DM_lowerThan_1 rfl (by decide) rfl ?_
  refine x_aload_n d_DM_lowerThan_2 rfl rfl ?_
  refine x_gC d_DM_lowerThan_3 (f_DM_23 rfl) (sh_DM hp) (hp_DM hp) rfl ?_
  refine x_iload_n d_DM_lowerThan_6 rfl rfl ?_
  obtain ⟨g_7, h⟩ := x_gd h
  refine x_lI d_DM_lowerThan_7 rfl (sa_DM_sortedCounts hp) (ha_DM_sortedCounts hp) g_7 ?_
  refine x_istore (lv2 := [(0, .ref p), (1, .int a1), (2, .int a2), (3, .int 0), (4, .int (m.2.1 (p + 12) a1.toNatClampNeg))]) d_DM_lowerThan_8 (by decide) rfl ?_
  refine x_iconst (v := 0) d_DM_lowerThan_10 (by decide) ?_
  refine x_istore (lv2 := [(0, .ref p), (1, .int a1), (2, .int a2), (3, .int 0), (4, .int (m.2.1 (p + 12) a1.toNatClampNeg)), (5, .int 0)]) d_DM_lowerThan_11 (by decide) rfl ?_
  exact b_DM_lowerThan_13 hp _ _ _ _ _ _ _ h
def B_TX_addFour_45    (m : x_m) : Option (x_m) := some m
theorem b_TX_addFour_45 {G : x_G} {ex : Bool} {r : x_m}    {m : x_m} (h : B_TX_addFour_45 m = some r) : x_W G M_TX_addFour (x_rd 0) (x_Q G (x_rd 0) ex (x_pv r)) ex x_np (x_hp m) 0 0 [] [] 45 := by
  unfold B_TX_addFour_45 at h
  cases h
  exact x_rv d_TX_addFour_45 rfl
def B_TX_addFour_3   : Nat → Int32 → Int32 → x_m → Option (x_m)
  | 0, _, _, _ => none
  | f_ + 1, l1, l2, m => (if l2 < 0 then B_TX_addFour_45 m else (if 65536 ≤ (m.1 1 1) then B_TX_addFour_45 m else (if x_ix (m.1 1 1) 65536 = true then (B_TX_addFour_3 f_) l1 (l2 + (-8)) (x_wS (x_wA m 2 (m.1 1 1).toNatClampNeg (vp_nar .byte (((l1.toUInt32 >>> (l2.toUInt32 &&& Int32.toUInt32 31)).toInt32).toInt8.toInt32))) 1 1 (((x_wA m 2 (m.1 1 1).toNatClampNeg (vp_nar .byte (((l1.toUInt32 >>> (l2.toUInt32 &&& Int32.toUInt32 31)).toInt32).toInt8.toInt32))).1 1 1) + 1)) else none)))
theorem b_TX_addFour_3 {G : x_G} {ex : Bool} {r : x_m}   : ∀ (f_ : Nat) (l1 : Int32) (l2 : Int32) (m : x_m), B_TX_addFour_3 f_ l1 l2 m = some r → x_W G M_TX_addFour (x_rd 0) (x_Q G (x_rd 0) ex (x_pv r)) ex x_np (x_hp m) 0 0 [(0, .ref 1), (1, .int l1), (2, .int l2)] [] 3 := by
  intro f_
  induction f_ with
  | zero => intro l1 l2 m h; exact nomatch h
  | succ f_ ih =>
    intro l1 l2 m h
    rw [B_TX_addFour_3] at h
    have hK3 := ih
    refine x_iload_n d_TX_addFour_3 rfl rfl ?_
    refine x_if_lt (tgt := 45) d_TX_addFour_4 (by decide) (fun c_ => ?_) (fun c_ => ?_)
    · replace h := x_it h c_
      refine x_sbk [] (lv2 := []) rfl ?_; exact b_TX_addFour_45 h
    · replace h := x_ie h c_
      refine x_aload_n d_TX_addFour_7 rfl rfl ?_
      refine x_gI d_TX_addFour_8 (f_TX_14 rfl) sh_TX hp_TX rfl ?_
      refine x_ldc (v := 65536) d_TX_addFour_11 w_40 ?_
      refine x_icmp_ge (tgt := 45) d_TX_addFour_13 (by decide) (fun c_ => ?_) (fun c_ => ?_)
      · replace h := x_it h c_
        refine x_sbk [] (lv2 := []) rfl ?_; exact b_TX_addFour_45 h
      · replace h := x_ie h c_
        refine x_aload_n d_TX_addFour_16 rfl rfl ?_
        refine x_gC d_TX_addFour_17 (f_TX_10 rfl) sh_TX hp_TX rfl ?_
        refine x_aload_n d_TX_addFour_20 rfl rfl ?_
        refine x_gI d_TX_addFour_21 (f_TX_14 rfl) sh_TX hp_TX rfl ?_
        refine x_iload_n d_TX_addFour_24 rfl rfl ?_
        refine x_iload_n d_TX_addFour_25 rfl rfl ?_
        refine x_iushr d_TX_addFour_26 ?_
        refine x_i2b d_TX_addFour_27 ?_
        obtain ⟨g_28, h⟩ := x_gd h
        refine x_sB d_TX_addFour_28 rfl sa_TX_bytes ha_TX_bytes g_28 ?_
        refine x_aload_n d_TX_addFour_29 rfl rfl ?_
        refine x_dup d_TX_addFour_30 rfl ?_
        refine x_gI d_TX_addFour_31 (f_TX_14 rfl) sh_TX hp_TX rfl ?_
        refine x_iconst (v := 1) d_TX_addFour_34 (by decide) ?_
        refine x_iadd d_TX_addFour_35 ?_
        refine x_pI d_TX_addFour_36 (f_TX_14 rfl) tb_TX rfl sh_TX hp_TX rfl ⟨rfl, rfl⟩ ?_
        refine x_iinc (v := l2 + (-8)) (lv2 := [(0, .ref 1), (1, .int l1), (2, .int (l2 + (-8)))]) d_TX_addFour_39 rfl rfl (by decide) rfl ?_
        refine x_goto (tgt := 3) d_TX_addFour_42 (by decide) ?_
        exact hK3 _ _ _ h
def F_TX_addFour  (a1 : Int32) (m : x_m) : Option (x_m) := B_TX_addFour_3 x_fu a1 24 m
theorem c_TX_addFour {G : x_G} {ex : Bool} {r : x_m}  {a1 : Int32} {m : x_m} (h : F_TX_addFour a1 m = some r) : x_R G M_TX_addFour (x_rd 0) ex [.ref 1, .int a1] x_np (x_hp m) (x_pv r) := by
  unfold F_TX_addFour at h
  show x_W G M_TX_addFour (x_rd 0) (x_Q G (x_rd 0) ex (x_pv r)) ex x_np (x_hp m) 0 0 [(0, .ref 1), (1, .int a1)] [] 0
  refine x_bipush (v := 24) d_TX_addFour_0 (by decide) ?_
  refine x_istore_n (lv2 := [(0, .ref 1), (1, .int a1), (2, .int 24)]) d_TX_addFour_2 rfl (by decide) rfl ?_
  exact b_TX_addFour_3 _ _ _ _ h
def B_CT_hasDimension_17   (s0 : Int32) (m : x_m) : Option (Int32 × x_m) := (if x_b1 s0 = true then some (s0, m) else none)
theorem b_CT_hasDimension_17 {G : x_G} {ex : Bool} {r : Int32 × x_m}   {s0 : Int32} {m : x_m} (h : B_CT_hasDimension_17 s0 m = some r) : x_W G M_CT_hasDimension (x_rd 0) (x_Q G (x_rd 0) ex (x_pi r)) ex x_np (x_hp m) 0 0 [] [.int s0] 17 := by
  unfold B_CT_hasDimension_17 at h
  obtain ⟨g_17, h⟩ := x_gd h
  cases h
  exact x_ri d_CT_hasDimension_17 rfl (x_b1_ok g_17).1
def B_CT_hasDimension_16    (m : x_m) : Option (Int32 × x_m) := B_CT_hasDimension_17 0 m
theorem b_CT_hasDimension_16 {G : x_G} {ex : Bool} {r : Int32 × x_m}    {m : x_m} (h : B_CT_hasDimension_16 m = some r) : x_W G M_CT_hasDimension (x_rd 0) (x_Q G (x_rd 0) ex (x_pi r)) ex x_np (x_hp m) 0 0 [] [] 16 := by
  unfold B_CT_hasDimension_16 at h
  refine x_iconst (v := 0) d_CT_hasDimension_16 (by decide) ?_
  exact b_CT_hasDimension_17 h
def F_CT_hasDimension  (a1 : Int32) (m : x_m) : Option (Int32 × x_m) := (if a1 < 0 then B_CT_hasDimension_16 m else (if (m.1 4 2) ≤ a1 then B_CT_hasDimension_16 m else B_CT_hasDimension_17 1 m))
theorem c_CT_hasDimension {G : x_G} {ex : Bool} {r : Int32 × x_m}  {a1 : Int32} {m : x_m} (h : F_CT_hasDimension a1 m = some r) : x_R G M_CT_hasDimension (x_rd 0) ex [.ref 4, .int a1] x_np (x_hp m) (x_pi r) := by
  unfold F_CT_hasDimension at h
  show x_W G M_CT_hasDimension (x_rd 0) (x_Q G (x_rd 0) ex (x_pi r)) ex x_np (x_hp m) 0 0 [(0, .ref 4), (1, .int a1)] [] 0
  refine x_iload_n d_CT_hasDimension_0 rfl rfl ?_
  refine x_if_lt (tgt := 16) d_CT_hasDimension_1 (by decide) (fun c_ => ?_) (fun c_ => ?_)
  · replace h := x_it h c_
    refine x_sbk [] (lv2 := []) rfl ?_; exact b_CT_hasDimension_16 h
  · replace h := x_ie h c_
    refine x_iload_n d_CT_hasDimension_4 rfl rfl ?_
    refine x_aload_n d_CT_hasDimension_5 rfl rfl ?_
    refine x_gI d_CT_hasDimension_6 (f_CT_25 rfl) sh_CT hp_CT rfl ?_
    refine x_icmp_ge (tgt := 16) d_CT_hasDimension_9 (by decide) (fun c_ => ?_) (fun c_ => ?_)
    · replace h := x_it h c_
      refine x_sbk [] (lv2 := []) rfl ?_; exact b_CT_hasDimension_16 h
    · replace h := x_ie h c_
      refine x_iconst (v := 1) d_CT_hasDimension_12 (by decide) ?_
      refine x_goto (tgt := 17) d_CT_hasDimension_13 (by decide) ?_
      refine x_sbk [] (lv2 := []) rfl ?_; exact b_CT_hasDimension_17 h
def B_CT_hasLevel_30   (s0 : Int32) (m : x_m) : Option (Int32 × x_m) := (if x_b1 s0 = true then some (s0, m) else none)
theorem b_CT_hasLevel_30 {G : x_G} {ex : Bool} {r : Int32 × x_m}   {s0 : Int32} {m : x_m} (h : B_CT_hasLevel_30 s0 m = some r) : x_W G M_CT_hasLevel (x_rd 1) (x_Q G (x_rd 1) ex (x_pi r)) ex x_np (x_hp m) 0 0 [] [.int s0] 30 := by
  unfold B_CT_hasLevel_30 at h
  obtain ⟨g_30, h⟩ := x_gd h
  cases h
  exact x_ri d_CT_hasLevel_30 rfl (x_b1_ok g_30).1
def B_CT_hasLevel_29    (m : x_m) : Option (Int32 × x_m) := B_CT_hasLevel_30 0 m
theorem b_CT_hasLevel_29 {G : x_G} {ex : Bool} {r : Int32 × x_m}    {m : x_m} (h : B_CT_hasLevel_29 m = some r) : x_W G M_CT_hasLevel (x_rd 1) (x_Q G (x_rd 1) ex (x_pi r)) ex x_np (x_hp m) 0 0 [] [] 29 := by
  unfold B_CT_hasLevel_29 at h
  refine x_iconst (v := 0) d_CT_hasLevel_29 (by decide) ?_
  exact b_CT_hasLevel_30 h
def F_CT_hasLevel  (a1 : Int32) (a2 : Int32) (m : x_m) : Option (Int32 × x_m) := ((F_CT_hasDimension a1 m).bind fun r2 => (if r2.1 = 0 then B_CT_hasLevel_29 r2.2 else (if a2 < 0 then B_CT_hasLevel_29 r2.2 else (if x_ix a1 8 = true then (if (r2.2.1 (9 + 13 * a1.toNatClampNeg) 0) ≤ a2 then B_CT_hasLevel_29 r2.2 else B_CT_hasLevel_30 1 r2.2) else none))))
theorem c_CT_hasLevel {G : x_G} {ex : Bool} {r : Int32 × x_m}  {a1 : Int32} {a2 : Int32} {m : x_m} (h : F_CT_hasLevel a1 a2 m = some r) : x_R G M_CT_hasLevel (x_rd 1) ex [.ref 4, .int a1, .int a2] x_np (x_hp m) (x_pi r) := by
  unfold F_CT_hasLevel at h
  show x_W G M_CT_hasLevel (x_rd 1) (x_Q G (x_rd 1) ex (x_pi r)) ex x_np (x_hp m) 0 0 [(0, .ref 4), (1, .int a1), (2, .int a2)] [] 0
  refine x_aload_n d_CT_hasLevel_0 rfl rfl ?_
  refine x_iload_n d_CT_hasLevel_1 rfl rfl ?_
  obtain ⟨r2, e2, h⟩ := x_bd h
  refine x_cVi (M2 := M_CT_hasDimension) (As := [.int a1]) (st := []) d_CT_hasLevel_2 w_937 k_CT_hasDimension (c_CT_hasDimension e2) rfl sh_CT hp_CT rfl ⟨Nat.le_of_ble_eq_true rfl, Nat.le_of_ble_eq_true rfl⟩ (Nat.le_of_ble_eq_true rfl) (Nat.le_of_ble_eq_true rfl) rfl ?_
  refine x_if_eq (tgt := 29) d_CT_hasLevel_5 (by decide) (fun c_ => ?_) (fun c_ => ?_)
  · replace h := x_it h c_
    refine x_sbk [] (lv2 := []) rfl ?_; exact b_CT_hasLevel_29 h
  · replace h := x_ie h c_
    refine x_iload_n d_CT_hasLevel_8 rfl rfl ?_
    refine x_if_lt (tgt := 29) d_CT_hasLevel_9 (by decide) (fun c_ => ?_) (fun c_ => ?_)
    · replace h := x_it h c_
      refine x_sbk [] (lv2 := []) rfl ?_; exact b_CT_hasLevel_29 h
    · replace h := x_ie h c_
      refine x_iload_n d_CT_hasLevel_12 rfl rfl ?_
      refine x_aload_n d_CT_hasLevel_13 rfl rfl ?_
      refine x_gC d_CT_hasLevel_14 (f_CT_20 rfl) sh_CT hp_CT rfl ?_
      refine x_iload_n d_CT_hasLevel_17 rfl rfl ?_
      obtain ⟨g_18, h⟩ := x_gd h
      refine x_lR (b := 9 + 13 * a1.toNatClampNeg) d_CT_hasLevel_18 rfl sa_CT_dimensions ha_CT_dimensions g_18 (if_pos (x_ix_lt g_18)) ?_
      refine x_gI d_CT_hasLevel_19 (f_CT_33 rfl) (sh_DM (x_DM_of (x_ix_lt g_18))) (hp_DM (x_DM_of (x_ix_lt g_18))) rfl ?_
      refine x_icmp_ge (tgt := 29) d_CT_hasLevel_22 (by decide) (fun c_ => ?_) (fun c_ => ?_)
      · replace h := x_it h c_
        refine x_sbk [] (lv2 := []) rfl ?_; exact b_CT_hasLevel_29 h
      · replace h := x_ie h c_
        refine x_iconst (v := 1) d_CT_hasLevel_25 (by decide) ?_
        refine x_goto (tgt := 30) d_CT_hasLevel_26 (by decide) ?_
        refine x_sbk [] (lv2 := []) rfl ?_; exact b_CT_hasLevel_30 h
def B_CT_hasMember_30   (s0 : Int32) (m : x_m) : Option (Int32 × x_m) := (if x_b1 s0 = true then some (s0, m) else none)
theorem b_CT_hasMember_30 {G : x_G} {ex : Bool} {r : Int32 × x_m}   {s0 : Int32} {m : x_m} (h : B_CT_hasMember_30 s0 m = some r) : x_W G M_CT_hasMember (x_rd 1) (x_Q G (x_rd 1) ex (x_pi r)) ex x_np (x_hp m) 0 0 [] [.int s0] 30 := by
  unfold B_CT_hasMember_30 at h
  obtain ⟨g_30, h⟩ := x_gd h
  cases h
  exact x_ri d_CT_hasMember_30 rfl (x_b1_ok g_30).1
def B_CT_hasMember_29    (m : x_m) : Option (Int32 × x_m) := B_CT_hasMember_30 0 m
theorem b_CT_hasMember_29 {G : x_G} {ex : Bool} {r : Int32 × x_m}    {m : x_m} (h : B_CT_hasMember_29 m = some r) : x_W G M_CT_hasMember (x_rd 1) (x_Q G (x_rd 1) ex (x_pi r)) ex x_np (x_hp m) 0 0 [] [] 29 := by
  unfold B_CT_hasMember_29 at h
  refine x_iconst (v := 0) d_CT_hasMember_29 (by decide) ?_
  exact b_CT_hasMember_30 h
def F_CT_hasMember  (a1 : Int32) (a2 : Int32) (m : x_m) : Option (Int32 × x_m) := ((F_CT_hasDimension a1 m).bind fun r2 => (if r2.1 = 0 then B_CT_hasMember_29 r2.2 else (if a2 < 0 then B_CT_hasMember_29 r2.2 else (if x_ix a1 8 = true then (if (r2.2.1 (9 + 13 * a1.toNatClampNeg) 1) ≤ a2 then B_CT_hasMember_29 r2.2 else B_CT_hasMember_30 1 r2.2) else none))))
theorem c_CT_hasMember {G : x_G} {ex : Bool} {r : Int32 × x_m}  {a1 : Int32} {a2 : Int32} {m : x_m} (h : F_CT_hasMember a1 a2 m = some r) : x_R G M_CT_hasMember (x_rd 1) ex [.ref 4, .int a1, .int a2] x_np (x_hp m) (x_pi r) := by
  unfold F_CT_hasMember at h
  show x_W G M_CT_hasMember (x_rd 1) (x_Q G (x_rd 1) ex (x_pi r)) ex x_np (x_hp m) 0 0 [(0, .ref 4), (1, .int a1), (2, .int a2)] [] 0
  refine x_aload_n d_CT_hasMember_0 rfl rfl ?_
  refine x_iload_n d_CT_hasMember_1 rfl rfl ?_
  obtain ⟨r2, e2, h⟩ := x_bd h
  refine x_cVi (M2 := M_CT_hasDimension) (As := [.int a1]) (st := []) d_CT_hasMember_2 w_937 k_CT_hasDimension (c_CT_hasDimension e2) rfl sh_CT hp_CT rfl ⟨Nat.le_of_ble_eq_true rfl, Nat.le_of_ble_eq_true rfl⟩ (Nat.le_of_ble_eq_true rfl) (Nat.le_of_ble_eq_true rfl) rfl ?_
  refine x_if_eq (tgt := 29) d_CT_hasMember_5 (by decide) (fun c_ => ?_) (fun c_ => ?_)
  · replace h := x_it h c_
    refine x_sbk [] (lv2 := []) rfl ?_; exact b_CT_hasMember_29 h
  · replace h := x_ie h c_
    refine x_iload_n d_CT_hasMember_8 rfl rfl ?_
    refine x_if_lt (tgt := 29) d_CT_hasMember_9 (by decide) (fun c_ => ?_) (fun c_ => ?_)
    · replace h := x_it h c_
      refine x_sbk [] (lv2 := []) rfl ?_; exact b_CT_hasMember_29 h
    · replace h := x_ie h c_
      refine x_iload_n d_CT_hasMember_12 rfl rfl ?_
      refine x_aload_n d_CT_hasMember_13 rfl rfl ?_
      refine x_gC d_CT_hasMember_14 (f_CT_20 rfl) sh_CT hp_CT rfl ?_
      refine x_iload_n d_CT_hasMember_17 rfl rfl ?_
      obtain ⟨g_18, h⟩ := x_gd h
      refine x_lR (b := 9 + 13 * a1.toNatClampNeg) d_CT_hasMember_18 rfl sa_CT_dimensions ha_CT_dimensions g_18 (if_pos (x_ix_lt g_18)) ?_
      refine x_gI d_CT_hasMember_19 (f_CT_36 rfl) (sh_DM (x_DM_of (x_ix_lt g_18))) (hp_DM (x_DM_of (x_ix_lt g_18))) rfl ?_
      refine x_icmp_ge (tgt := 29) d_CT_hasMember_22 (by decide) (fun c_ => ?_) (fun c_ => ?_)
      · replace h := x_it h c_
        refine x_sbk [] (lv2 := []) rfl ?_; exact b_CT_hasMember_29 h
      · replace h := x_ie h c_
        refine x_iconst (v := 1) d_CT_hasMember_25 (by decide) ?_
        refine x_goto (tgt := 30) d_CT_hasMember_26 (by decide) ?_
        refine x_sbk [] (lv2 := []) rfl ?_; exact b_CT_hasMember_30 h
def F_DM_valueAt (p : Nat) (a1 : Int32) (a2 : Int32) (m : x_m) : Option (Int32 × x_m) := (if x_ix a1 4 = true then (if x_ix a2 1000 = true then (if x_ix (m.2.1 (p + 6) a2.toNatClampNeg) 1000 = true then some (m.2.1 (p + 2 + a1.toNatClampNeg) (m.2.1 (p + 6) a2.toNatClampNeg).toNatClampNeg, m) else none) else none) else none)
theorem c_DM_valueAt {G : x_G} {ex : Bool} {r : Int32 × x_m} {p : Nat} (hp : x_DM p) {a1 : Int32} {a2 : Int32} {m : x_m} (h : F_DM_valueAt p a1 a2 m = some r) : x_R G M_DM_valueAt (x_rd 0) ex [.ref p, .int a1, .int a2] x_np (x_hp m) (x_pi r) := by
  unfold F_DM_valueAt at h
  show x_W G M_DM_valueAt (x_rd 0) (x_Q G (x_rd 0) ex (x_pi r)) ex x_np (x_hp m) 0 0 [(0, .ref p), (1, .int a1), (2, .int a2)] [] 0
  refine x_aload_n d_DM_valueAt_0 rfl rfl ?_
  refine x_gC d_DM_valueAt_1 (f_DM_13 rfl) (sh_DM hp) (hp_DM hp) rfl ?_
  refine x_iload_n d_DM_valueAt_4 rfl rfl ?_
  obtain ⟨g_5, h⟩ := x_gd h
  refine x_lA (b := p + 2 + a1.toNatClampNeg) d_DM_valueAt_5 rfl (sa_DM_values hp) (ha_DM_values hp) g_5 (if_pos (x_ix_lt g_5)) ?_
  refine x_aload_n d_DM_valueAt_6 rfl rfl ?_
  refine x_gC d_DM_valueAt_7 (f_DM_16 rfl) (sh_DM hp) (hp_DM hp) rfl ?_
  refine x_iload_n d_DM_valueAt_10 rfl rfl ?_
  obtain ⟨g_11, h⟩ := x_gd h
  refine x_lI d_DM_valueAt_11 rfl (sa_DM_rows hp) (ha_DM_rows hp) g_11 ?_
  obtain ⟨g_12, h⟩ := x_gd h
  refine x_lI d_DM_valueAt_12 rfl (sa_DM_vrow hp (x_ix_lt g_5)) (ha_DM_vrow hp (x_ix_lt g_5)) g_12 ?_
  cases h
  exact x_ri d_DM_valueAt_13 rfl rfl
def F_DM_distinctAt (p : Nat) (a1 : Int32) (m : x_m) : Option (Int32 × x_m) := (if x_ix a1 4 = true then some (m.2.1 (p + 12) a1.toNatClampNeg, m) else none)
theorem c_DM_distinctAt {G : x_G} {ex : Bool} {r : Int32 × x_m} {p : Nat} (hp : x_DM p) {a1 : Int32} {m : x_m} (h : F_DM_distinctAt p a1 m = some r) : x_R G M_DM_distinctAt (x_rd 0) ex [.ref p, .int a1] x_np (x_hp m) (x_pi r) := by
  unfold F_DM_distinctAt at h
  show x_W G M_DM_distinctAt (x_rd 0) (x_Q G (x_rd 0) ex (x_pi r)) ex x_np (x_hp m) 0 0 [(0, .ref p), (1, .int a1)] [] 0
  refine x_aload_n d_DM_distinctAt_0 rfl rfl ?_
  refine x_gC d_DM_distinctAt_1 (f_DM_23 rfl) (sh_DM hp) (hp_DM hp) rfl ?_
  refine x_iload_n d_DM_distinctAt_4 rfl rfl ?_
  obtain ⟨g_5, h⟩ := x_gd h
  refine x_lI d_DM_distinctAt_5 rfl (sa_DM_sortedCounts hp) (ha_DM_sortedCounts hp) g_5 ?_
  cases h
  exact x_ri d_DM_distinctAt_6 rfl rfl
def B_DM_placeOf_34 (p : Nat)  (s0 : Int32) (m : x_m) : Option (Int32 × x_m) := some (s0, m)
theorem b_DM_placeOf_34 {G : x_G} {ex : Bool} {r : Int32 × x_m} {p : Nat} (hp : x_DM p)  {s0 : Int32} {m : x_m} (h : B_DM_placeOf_34 p s0 m = some r) : x_W G M_DM_placeOf (x_rd 1) (x_Q G (x_rd 1) ex (x_pi r)) ex x_np (x_hp m) 0 0 [] [.int s0] 34 := by
  unfold B_DM_placeOf_34 at h
  cases h
  exact x_ri d_DM_placeOf_34 rfl rfl
def B_DM_placeOf_33 (p : Nat)   (m : x_m) : Option (Int32 × x_m) := B_DM_placeOf_34 p ((-1)) m
theorem b_DM_placeOf_33 {G : x_G} {ex : Bool} {r : Int32 × x_m} {p : Nat} (hp : x_DM p)   {m : x_m} (h : B_DM_placeOf_33 p m = some r) : x_W G M_DM_placeOf (x_rd 1) (x_Q G (x_rd 1) ex (x_pi r)) ex x_np (x_hp m) 0 0 [] [] 33 := by
  unfold B_DM_placeOf_33 at h
  refine x_iconst (v := (-1)) d_DM_placeOf_33 (by decide) ?_
  exact b_DM_placeOf_34 hp h
def F_DM_placeOf (p : Nat) (a1 : Int32) (m : x_m) : Option (Int32 × x_m) := ((F_DM_lowerThan p 0 a1 m).bind fun r3 => (if x_ix 0 4 = true then (if (r3.2.2.1 (p + 12) (0 : Int32).toNatClampNeg) ≤ r3.1 then B_DM_placeOf_33 p r3.2 else (if x_ix 0 4 = true then (if x_ix r3.1 1000 = true then (if (r3.2.2.1 (p + 8 + (0 : Int32).toNatClampNeg) r3.1.toNatClampNeg) = a1 then B_DM_placeOf_34 p r3.1 r3.2 else B_DM_placeOf_33 p r3.2) else none) else none)) else none))
theorem c_DM_placeOf {G : x_G} {ex : Bool} {r : Int32 × x_m} {p : Nat} (hp : x_DM p) {a1 : Int32} {m : x_m} (h : F_DM_placeOf p a1 m = some r) : x_R G M_DM_placeOf (x_rd 1) ex [.ref p, .int a1] x_np (x_hp m) (x_pi r) := by
  unfold F_DM_placeOf at h
  show x_W G M_DM_placeOf (x_rd 1) (x_Q G (x_rd 1) ex (x_pi r)) ex x_np (x_hp m) 0 0 [(0, .ref p), (1, .int a1)] [] 0
  refine x_aload_n d_DM_placeOf_0 rfl rfl ?_
  refine x_iconst (v := 0) d_DM_placeOf_1 (by decide) ?_
  refine x_iload_n d_DM_placeOf_2 rfl rfl ?_
  obtain ⟨r3, e3, h⟩ := x_bd h
  refine x_cVi (M2 := M_DM_lowerThan) (As := [.int 0, .int a1]) (st := []) d_DM_placeOf_3 w_789 k_DM_lowerThan (c_DM_lowerThan hp e3) rfl (sh_DM hp) (hp_DM hp) rfl ⟨Nat.le_of_ble_eq_true rfl, Nat.le_of_ble_eq_true rfl⟩ (Nat.le_of_ble_eq_true rfl) (Nat.le_of_ble_eq_true rfl) rfl ?_
  refine x_istore_n (lv2 := [(0, .ref p), (1, .int a1), (2, .int r3.1)]) d_DM_placeOf_6 rfl (by decide) rfl ?_
  refine x_iload_n d_DM_placeOf_7 rfl rfl ?_
  refine x_aload_n d_DM_placeOf_8 rfl rfl ?_
  refine x_gC d_DM_placeOf_9 (f_DM_23 rfl) (sh_DM hp) (hp_DM hp) rfl ?_
  refine x_iconst (v := 0) d_DM_placeOf_12 (by decide) ?_
  obtain ⟨g_13, h⟩ := x_gd h
  refine x_lI d_DM_placeOf_13 rfl (sa_DM_sortedCounts hp) (ha_DM_sortedCounts hp) g_13 ?_
  refine x_icmp_ge (tgt := 33) d_DM_placeOf_14 (by decide) (fun c_ => ?_) (fun c_ => ?_)
  · replace h := x_it h c_
    refine x_sbk [] (lv2 := []) rfl ?_; exact b_DM_placeOf_33 hp h
  · replace h := x_ie h c_
    refine x_aload_n d_DM_placeOf_17 rfl rfl ?_
    refine x_gC d_DM_placeOf_18 (f_DM_20 rfl) (sh_DM hp) (hp_DM hp) rfl ?_
    refine x_iconst (v := 0) d_DM_placeOf_21 (by decide) ?_
    obtain ⟨g_22, h⟩ := x_gd h
    refine x_lA (b := p + 8 + (0 : Int32).toNatClampNeg) d_DM_placeOf_22 rfl (sa_DM_sorted hp) (ha_DM_sorted hp) g_22 (if_pos (x_ix_lt g_22)) ?_
    refine x_iload_n d_DM_placeOf_23 rfl rfl ?_
    obtain ⟨g_24, h⟩ := x_gd h
    refine x_lI d_DM_placeOf_24 rfl (sa_DM_srow hp (x_ix_lt g_22)) (ha_DM_srow hp (x_ix_lt g_22)) g_24 ?_
    refine x_iload_n d_DM_placeOf_25 rfl rfl ?_
    refine x_icmp_ne (tgt := 33) d_DM_placeOf_26 (by decide) (fun c_ => ?_) (fun c_ => ?_)
    · replace h := x_ie h c_
      refine x_sbk [] (lv2 := []) rfl ?_; exact b_DM_placeOf_33 hp h
    · replace h := x_it h c_
      refine x_iload_n d_DM_placeOf_29 rfl rfl ?_
      refine x_goto (tgt := 34) d_DM_placeOf_30 (by decide) ?_
      refine x_sbk [] (lv2 := []) rfl ?_; exact b_DM_placeOf_34 hp h
def F_CT_dimensionOf  (a0 : Int32) (m : x_m) : Option (Int32 × x_m) := some (a0 / 4, m)
theorem c_CT_dimensionOf {G : x_G} {ex : Bool} {r : Int32 × x_m}  {a0 : Int32} {m : x_m} (h : F_CT_dimensionOf a0 m = some r) : x_R G M_CT_dimensionOf (x_rd 0) ex [.int a0] x_np (x_hp m) (x_pi r) := by
  unfold F_CT_dimensionOf at h
  show x_W G M_CT_dimensionOf (x_rd 0) (x_Q G (x_rd 0) ex (x_pi r)) ex x_np (x_hp m) 0 0 [(0, .int a0)] [] 0
  refine x_iload_n d_CT_dimensionOf_0 rfl rfl ?_
  refine x_iconst (v := 4) d_CT_dimensionOf_1 (by decide) ?_
  refine x_idiv d_CT_dimensionOf_2 (by decide) ?_
  cases h
  exact x_ri d_CT_dimensionOf_3 rfl rfl
def F_CT_levelOf  (a0 : Int32) (m : x_m) : Option (Int32 × x_m) := some (a0 - a0 / 4 * 4, m)
theorem c_CT_levelOf {G : x_G} {ex : Bool} {r : Int32 × x_m}  {a0 : Int32} {m : x_m} (h : F_CT_levelOf a0 m = some r) : x_R G M_CT_levelOf (x_rd 0) ex [.int a0] x_np (x_hp m) (x_pi r) := by
  unfold F_CT_levelOf at h
  show x_W G M_CT_levelOf (x_rd 0) (x_Q G (x_rd 0) ex (x_pi r)) ex x_np (x_hp m) 0 0 [(0, .int a0)] [] 0
  refine x_iload_n d_CT_levelOf_0 rfl rfl ?_
  refine x_iconst (v := 4) d_CT_levelOf_1 (by decide) ?_
  refine x_irem d_CT_levelOf_2 (by decide) ?_
  cases h
  exact x_ri d_CT_levelOf_3 rfl rfl
def B_CT_hasName_52   (s0 : Int32) (m : x_m) : Option (Int32 × x_m) := (if x_b1 s0 = true then some (s0, m) else none)
theorem b_CT_hasName_52 {G : x_G} {ex : Bool} {r : Int32 × x_m}   {s0 : Int32} {m : x_m} (h : B_CT_hasName_52 s0 m = some r) : x_W G M_CT_hasName (x_rd 2) (x_Q G (x_rd 2) ex (x_pi r)) ex x_np (x_hp m) 0 0 [] [.int s0] 52 := by
  unfold B_CT_hasName_52 at h
  obtain ⟨g_52, h⟩ := x_gd h
  cases h
  exact x_ri d_CT_hasName_52 rfl (x_b1_ok g_52).1
def F_CT_hasName  (a1 : Int32) (m : x_m) : Option (Int32 × x_m) := (if 8 ≤ a1 then (if 40 ≤ a1 then (if (m.1 4 3) ≤ (a1 - 40) then B_CT_hasName_52 0 m else B_CT_hasName_52 1 m) else ((F_CT_dimensionOf (a1 - 8) m).bind fun r25 => ((F_CT_levelOf (a1 - 8) r25.2).bind fun r29 => ((F_CT_hasLevel r25.1 r29.1 r29.2).bind fun r32 => (if x_b1 r32.1 = true then some (r32.1, r32.2) else none))))) else ((F_CT_hasDimension a1 m).bind fun r8 => (if x_b1 r8.1 = true then some (r8.1, r8.2) else none)))
theorem c_CT_hasName {G : x_G} {ex : Bool} {r : Int32 × x_m}  {a1 : Int32} {m : x_m} (h : F_CT_hasName a1 m = some r) : x_R G M_CT_hasName (x_rd 2) ex [.ref 4, .int a1] x_np (x_hp m) (x_pi r) := by
  unfold F_CT_hasName at h
  show x_W G M_CT_hasName (x_rd 2) (x_Q G (x_rd 2) ex (x_pi r)) ex x_np (x_hp m) 0 0 [(0, .ref 4), (1, .int a1)] [] 0
  refine x_iload_n d_CT_hasName_0 rfl rfl ?_
  refine x_bipush (v := 8) d_CT_hasName_1 (by decide) ?_
  refine x_icmp_ge (tgt := 12) d_CT_hasName_3 (by decide) (fun c_ => ?_) (fun c_ => ?_)
  · replace h := x_it h c_
    refine x_iload_n d_CT_hasName_12 rfl rfl ?_
    refine x_bipush (v := 40) d_CT_hasName_13 (by decide) ?_
    refine x_icmp_ge (tgt := 36) d_CT_hasName_15 (by decide) (fun c_ => ?_) (fun c_ => ?_)
    · replace h := x_it h c_
      refine x_iload_n d_CT_hasName_36 rfl rfl ?_
      refine x_bipush (v := 40) d_CT_hasName_37 (by decide) ?_
      refine x_isub d_CT_hasName_39 ?_
      refine x_aload_n d_CT_hasName_40 rfl rfl ?_
      refine x_gI d_CT_hasName_41 (f_CT_50 rfl) sh_CT hp_CT rfl ?_
      refine x_icmp_ge (tgt := 51) d_CT_hasName_44 (by decide) (fun c_ => ?_) (fun c_ => ?_)
      · replace h := x_it h c_
        refine x_iconst (v := 0) d_CT_hasName_51 (by decide) ?_
        refine x_sbk [] (lv2 := []) rfl ?_; exact b_CT_hasName_52 h
      · replace h := x_ie h c_
        refine x_iconst (v := 1) d_CT_hasName_47 (by decide) ?_
        refine x_goto (tgt := 52) d_CT_hasName_48 (by decide) ?_
        refine x_sbk [] (lv2 := []) rfl ?_; exact b_CT_hasName_52 h
    · replace h := x_ie h c_
      refine x_iload_n d_CT_hasName_18 rfl rfl ?_
      refine x_bipush (v := 8) d_CT_hasName_19 (by decide) ?_
      refine x_isub d_CT_hasName_21 ?_
      refine x_istore_n (lv2 := [(0, .ref 4), (1, .int a1), (2, .int (a1 - 8))]) d_CT_hasName_22 rfl (by decide) rfl ?_
      refine x_aload_n d_CT_hasName_23 rfl rfl ?_
      refine x_iload_n d_CT_hasName_24 rfl rfl ?_
      obtain ⟨r25, e25, h⟩ := x_bd h
      refine x_cSi (M2 := M_CT_dimensionOf) (As := [.int (a1 - 8)]) (st := [.ref 4]) d_CT_hasName_25 w_985 k_CT_dimensionOf (c_CT_dimensionOf e25) rfl ⟨Nat.le_of_ble_eq_true rfl, Nat.le_of_ble_eq_true rfl⟩ (Nat.le_of_ble_eq_true rfl) (Nat.le_of_ble_eq_true rfl) rfl ?_
      refine x_iload_n d_CT_hasName_28 rfl rfl ?_
      obtain ⟨r29, e29, h⟩ := x_bd h
      refine x_cSi (M2 := M_CT_levelOf) (As := [.int (a1 - 8)]) (st := [.int r25.1, .ref 4]) d_CT_hasName_29 w_988 k_CT_levelOf (c_CT_levelOf e29) rfl ⟨Nat.le_of_ble_eq_true rfl, Nat.le_of_ble_eq_true rfl⟩ (Nat.le_of_ble_eq_true rfl) (Nat.le_of_ble_eq_true rfl) rfl ?_
      obtain ⟨r32, e32, h⟩ := x_bd h
      refine x_cVi (M2 := M_CT_hasLevel) (As := [.int r25.1, .int r29.1]) (st := []) d_CT_hasName_32 w_991 k_CT_hasLevel (c_CT_hasLevel e32) rfl sh_CT hp_CT rfl ⟨Nat.le_of_ble_eq_true rfl, Nat.le_of_ble_eq_true rfl⟩ (Nat.le_of_ble_eq_true rfl) (Nat.le_of_ble_eq_true rfl) rfl ?_
      obtain ⟨g_35, h⟩ := x_gd h
      cases h
      exact x_ri d_CT_hasName_35 rfl (x_b1_ok g_35).1
  · replace h := x_ie h c_
    refine x_aload_n d_CT_hasName_6 rfl rfl ?_
    refine x_iload_n d_CT_hasName_7 rfl rfl ?_
    obtain ⟨r8, e8, h⟩ := x_bd h
    refine x_cVi (M2 := M_CT_hasDimension) (As := [.int a1]) (st := []) d_CT_hasName_8 w_937 k_CT_hasDimension (c_CT_hasDimension e8) rfl sh_CT hp_CT rfl ⟨Nat.le_of_ble_eq_true rfl, Nat.le_of_ble_eq_true rfl⟩ (Nat.le_of_ble_eq_true rfl) (Nat.le_of_ble_eq_true rfl) rfl ?_
    obtain ⟨g_11, h⟩ := x_gd h
    cases h
    exact x_ri d_CT_hasName_11 rfl (x_b1_ok g_11).1
def B_NM_letterAt_25   (s0 : Int32) (m : x_m) : Option (Int32 × x_m) := some (s0, m)
theorem b_NM_letterAt_25 {G : x_G} {ex : Bool} {r : Int32 × x_m}   {s0 : Int32} {m : x_m} (h : B_NM_letterAt_25 s0 m = some r) : x_W G M_NM_letterAt (x_rd 0) (x_Q G (x_rd 0) ex (x_pi r)) ex x_np (x_hp m) 0 0 [] [.int s0] 25 := by
  unfold B_NM_letterAt_25 at h
  cases h
  exact x_ri d_NM_letterAt_25 rfl rfl
def F_NM_letterAt  (a1 : Int32) (a2 : Int32) (m : x_m) : Option (Int32 × x_m) := (if x_ix a1 48 = true then (if (m.2.1 7 a1.toNatClampNeg) ≤ a2 then B_NM_letterAt_25 ((-1)) m else (if x_ix ((a1 * 40) + a2) 1920 = true then B_NM_letterAt_25 (m.2.1 6 ((a1 * 40) + a2).toNatClampNeg) m else none)) else none)
theorem c_NM_letterAt {G : x_G} {ex : Bool} {r : Int32 × x_m}  {a1 : Int32} {a2 : Int32} {m : x_m} (h : F_NM_letterAt a1 a2 m = some r) : x_R G M_NM_letterAt (x_rd 0) ex [.ref 5, .int a1, .int a2] x_np (x_hp m) (x_pi r) := by
  unfold F_NM_letterAt at h
  show x_W G M_NM_letterAt (x_rd 0) (x_Q G (x_rd 0) ex (x_pi r)) ex x_np (x_hp m) 0 0 [(0, .ref 5), (1, .int a1), (2, .int a2)] [] 0
  refine x_iload_n d_NM_letterAt_0 rfl rfl ?_
  refine x_aload_n d_NM_letterAt_1 rfl rfl ?_
  refine x_gC d_NM_letterAt_2 (f_NM_15 rfl) sh_NM hp_NM rfl ?_
  refine x_iload_n d_NM_letterAt_5 rfl rfl ?_
  obtain ⟨g_6, h⟩ := x_gd h
  refine x_lI d_NM_letterAt_6 rfl sa_NM_lengths ha_NM_lengths g_6 ?_
  refine x_icmp_ge (tgt := 24) d_NM_letterAt_7 (by decide) (fun c_ => ?_) (fun c_ => ?_)
  · replace h := x_it h c_
    refine x_iconst (v := (-1)) d_NM_letterAt_24 (by decide) ?_
    refine x_sbk [] (lv2 := []) rfl ?_; exact b_NM_letterAt_25 h
  · replace h := x_ie h c_
    refine x_aload_n d_NM_letterAt_10 rfl rfl ?_
    refine x_gC d_NM_letterAt_11 (f_NM_11 rfl) sh_NM hp_NM rfl ?_
    refine x_iload_n d_NM_letterAt_14 rfl rfl ?_
    refine x_bipush (v := 40) d_NM_letterAt_15 (by decide) ?_
    refine x_imul d_NM_letterAt_17 ?_
    refine x_iload_n d_NM_letterAt_18 rfl rfl ?_
    refine x_iadd d_NM_letterAt_19 ?_
    obtain ⟨g_20, h⟩ := x_gd h
    refine x_lB d_NM_letterAt_20 rfl sa_NM_letters ha_NM_letters g_20 ?_
    refine x_goto (tgt := 25) d_NM_letterAt_21 (by decide) ?_
    refine x_sbk [] (lv2 := []) rfl ?_; exact b_NM_letterAt_25 h
def B_CP_isListed_2 (p : Nat)  : Nat → Int32 → Int32 → x_m → Option (Int32 × x_m)
  | 0, _, _, _ => none
  | f_ + 1, l1, l2, m => (if (m.1 p 4) ≤ l2 then some (0, m) else (if x_ix l2 40 = true then (if (m.2.1 (p + 1) l2.toNatClampNeg) = l1 then some (1, m) else (B_CP_isListed_2 p f_) l1 (l2 + 1) m) else none))
theorem b_CP_isListed_2 {G : x_G} {ex : Bool} {r : Int32 × x_m} {p : Nat} (hp : x_CP p)  : ∀ (f_ : Nat) (l1 : Int32) (l2 : Int32) (m : x_m), B_CP_isListed_2 p f_ l1 l2 m = some r → x_W G M_CP_isListed (x_rd 0) (x_Q G (x_rd 0) ex (x_pi r)) ex x_np (x_hp m) 0 0 [(0, .ref p), (1, .int l1), (2, .int l2)] [] 2 := by
  intro f_
  induction f_ with
  | zero => intro l1 l2 m h; exact nomatch h
  | succ f_ ih =>
    intro l1 l2 m h
    rw [B_CP_isListed_2] at h
    have hK2 := ih
    refine x_iload_n d_CP_isListed_2 rfl rfl ?_
    refine x_aload_n d_CP_isListed_3 rfl rfl ?_
    refine x_gI d_CP_isListed_4 (f_CP_21 rfl) (sh_CP hp) (hp_CP hp) rfl ?_
    refine x_icmp_ge (tgt := 28) d_CP_isListed_7 (by decide) (fun c_ => ?_) (fun c_ => ?_)
    · replace h := x_it h c_
      refine x_iconst (v := 0) d_CP_isListed_28 (by decide) ?_
      cases h
      exact x_ri d_CP_isListed_29 rfl rfl
    · replace h := x_ie h c_
      refine x_aload_n d_CP_isListed_10 rfl rfl ?_
      refine x_gC d_CP_isListed_11 (f_CP_9 rfl) (sh_CP hp) (hp_CP hp) rfl ?_
      refine x_iload_n d_CP_isListed_14 rfl rfl ?_
      obtain ⟨g_15, h⟩ := x_gd h
      refine x_lI d_CP_isListed_15 rfl (sa_CP_list hp) (ha_CP_list hp) g_15 ?_
      refine x_iload_n d_CP_isListed_16 rfl rfl ?_
      refine x_icmp_ne (tgt := 22) d_CP_isListed_17 (by decide) (fun c_ => ?_) (fun c_ => ?_)
      · replace h := x_ie h c_
        refine x_iinc (v := l2 + 1) (lv2 := [(0, .ref p), (1, .int l1), (2, .int (l2 + 1))]) d_CP_isListed_22 rfl rfl (by decide) rfl ?_
        refine x_goto (tgt := 2) d_CP_isListed_25 (by decide) ?_
        exact hK2 _ _ _ h
      · replace h := x_it h c_
        refine x_iconst (v := 1) d_CP_isListed_20 (by decide) ?_
        cases h
        exact x_ri d_CP_isListed_21 rfl rfl
def F_CP_isListed (p : Nat) (a1 : Int32) (m : x_m) : Option (Int32 × x_m) := B_CP_isListed_2 p x_fu a1 0 m
theorem c_CP_isListed {G : x_G} {ex : Bool} {r : Int32 × x_m} {p : Nat} (hp : x_CP p) {a1 : Int32} {m : x_m} (h : F_CP_isListed p a1 m = some r) : x_R G M_CP_isListed (x_rd 0) ex [.ref p, .int a1] x_np (x_hp m) (x_pi r) := by
  unfold F_CP_isListed at h
  show x_W G M_CP_isListed (x_rd 0) (x_Q G (x_rd 0) ex (x_pi r)) ex x_np (x_hp m) 0 0 [(0, .ref p), (1, .int a1)] [] 0
  refine x_iconst (v := 0) d_CP_isListed_0 (by decide) ?_
  refine x_istore_n (lv2 := [(0, .ref p), (1, .int a1), (2, .int 0)]) d_CP_isListed_1 rfl (by decide) rfl ?_
  exact b_CP_isListed_2 hp _ _ _ _ h
def B_CP_accepts_50 (p : Nat)  (s0 : Int32) (m : x_m) : Option (Int32 × x_m) := (if x_b1 s0 = true then some (s0, m) else none)
theorem b_CP_accepts_50 {G : x_G} {ex : Bool} {r : Int32 × x_m} {p : Nat} (hp : x_CP p)  {s0 : Int32} {m : x_m} (h : B_CP_accepts_50 p s0 m = some r) : x_W G M_CP_accepts (x_rd 1) (x_Q G (x_rd 1) ex (x_pi r)) ex x_np (x_hp m) 0 0 [] [.int s0] 50 := by
  unfold B_CP_accepts_50 at h
  obtain ⟨g_50, h⟩ := x_gd h
  cases h
  exact x_ri d_CP_accepts_50 rfl (x_b1_ok g_50).1
def B_CP_accepts_36 (p : Nat)  (s0 : Int32) (m : x_m) : Option (Int32 × x_m) := (if s0 = (m.1 p 1) then B_CP_accepts_50 p 0 m else B_CP_accepts_50 p 1 m)
theorem b_CP_accepts_36 {G : x_G} {ex : Bool} {r : Int32 × x_m} {p : Nat} (hp : x_CP p)  {s0 : Int32} {m : x_m} (h : B_CP_accepts_36 p s0 m = some r) : x_W G M_CP_accepts (x_rd 1) (x_Q G (x_rd 1) ex (x_pi r)) ex x_np (x_hp m) 0 0 [(0, .ref p)] [.int s0] 36 := by
  unfold B_CP_accepts_36 at h
  refine x_istore_n (lv2 := [(0, .ref p), (2, .int s0)]) d_CP_accepts_36 rfl (by decide) rfl ?_
  refine x_iload_n d_CP_accepts_37 rfl rfl ?_
  refine x_aload_n d_CP_accepts_38 rfl rfl ?_
  refine x_gI d_CP_accepts_39 (f_CP_17 rfl) (sh_CP hp) (hp_CP hp) rfl ?_
  refine x_icmp_eq (tgt := 49) d_CP_accepts_42 (by decide) (fun c_ => ?_) (fun c_ => ?_)
  · replace h := x_it h c_
    refine x_iconst (v := 0) d_CP_accepts_49 (by decide) ?_
    refine x_sbk [] (lv2 := []) rfl ?_; exact b_CP_accepts_50 hp h
  · replace h := x_ie h c_
    refine x_iconst (v := 1) d_CP_accepts_45 (by decide) ?_
    refine x_goto (tgt := 50) d_CP_accepts_46 (by decide) ?_
    refine x_sbk [] (lv2 := []) rfl ?_; exact b_CP_accepts_50 hp h
def B_CP_accepts_27 (p : Nat)   (m : x_m) : Option (Int32 × x_m) := B_CP_accepts_36 p 0 m
theorem b_CP_accepts_27 {G : x_G} {ex : Bool} {r : Int32 × x_m} {p : Nat} (hp : x_CP p)   {m : x_m} (h : B_CP_accepts_27 p m = some r) : x_W G M_CP_accepts (x_rd 1) (x_Q G (x_rd 1) ex (x_pi r)) ex x_np (x_hp m) 0 0 [(0, .ref p)] [] 27 := by
  unfold B_CP_accepts_27 at h
  refine x_iconst (v := 0) d_CP_accepts_27 (by decide) ?_
  refine x_goto (tgt := 36) d_CP_accepts_28 (by decide) ?_
  exact b_CP_accepts_36 hp h
def F_CP_accepts (p : Nat) (a1 : Int32) (m : x_m) : Option (Int32 × x_m) := (if (m.1 p 4) = 0 then (if a1 < (m.1 p 2) then B_CP_accepts_27 p m else (if (m.1 p 3) < a1 then B_CP_accepts_27 p m else B_CP_accepts_36 p 1 m)) else ((F_CP_isListed p a1 m).bind fun r33 => B_CP_accepts_36 p r33.1 r33.2))
theorem c_CP_accepts {G : x_G} {ex : Bool} {r : Int32 × x_m} {p : Nat} (hp : x_CP p) {a1 : Int32} {m : x_m} (h : F_CP_accepts p a1 m = some r) : x_R G M_CP_accepts (x_rd 1) ex [.ref p, .int a1] x_np (x_hp m) (x_pi r) := by
  unfold F_CP_accepts at h
  show x_W G M_CP_accepts (x_rd 1) (x_Q G (x_rd 1) ex (x_pi r)) ex x_np (x_hp m) 0 0 [(0, .ref p), (1, .int a1)] [] 0
  refine x_aload_n d_CP_accepts_0 rfl rfl ?_
  refine x_gI d_CP_accepts_1 (f_CP_21 rfl) (sh_CP hp) (hp_CP hp) rfl ?_
  refine x_if_ne (tgt := 31) d_CP_accepts_4 (by decide) (fun c_ => ?_) (fun c_ => ?_)
  · replace h := x_ie h c_
    refine x_aload_n d_CP_accepts_31 rfl rfl ?_
    refine x_iload_n d_CP_accepts_32 rfl rfl ?_
    obtain ⟨r33, e33, h⟩ := x_bd h
    refine x_cVi (M2 := M_CP_isListed) (As := [.int a1]) (st := []) d_CP_accepts_33 w_1049 k_CP_isListed (c_CP_isListed hp e33) rfl (sh_CP hp) (hp_CP hp) rfl ⟨Nat.le_of_ble_eq_true rfl, Nat.le_of_ble_eq_true rfl⟩ (Nat.le_of_ble_eq_true rfl) (Nat.le_of_ble_eq_true rfl) rfl ?_
    refine x_sbk [0] (lv2 := [(0, .ref p)]) rfl ?_; exact b_CP_accepts_36 hp h
  · replace h := x_it h c_
    refine x_aload_n d_CP_accepts_7 rfl rfl ?_
    refine x_gI d_CP_accepts_8 (f_CP_24 rfl) (sh_CP hp) (hp_CP hp) rfl ?_
    refine x_iload_n d_CP_accepts_11 rfl rfl ?_
    refine x_icmp_gt (tgt := 27) d_CP_accepts_12 (by decide) (fun c_ => ?_) (fun c_ => ?_)
    · replace h := x_it h c_
      refine x_sbk [0] (lv2 := [(0, .ref p)]) rfl ?_; exact b_CP_accepts_27 hp h
    · replace h := x_ie h c_
      refine x_iload_n d_CP_accepts_15 rfl rfl ?_
      refine x_aload_n d_CP_accepts_16 rfl rfl ?_
      refine x_gI d_CP_accepts_17 (f_CP_27 rfl) (sh_CP hp) (hp_CP hp) rfl ?_
      refine x_icmp_gt (tgt := 27) d_CP_accepts_20 (by decide) (fun c_ => ?_) (fun c_ => ?_)
      · replace h := x_it h c_
        refine x_sbk [0] (lv2 := [(0, .ref p)]) rfl ?_; exact b_CP_accepts_27 hp h
      · replace h := x_ie h c_
        refine x_iconst (v := 1) d_CP_accepts_23 (by decide) ?_
        refine x_goto (tgt := 36) d_CP_accepts_24 (by decide) ?_
        refine x_sbk [0] (lv2 := [(0, .ref p)]) rfl ?_; exact b_CP_accepts_36 hp h
def F_CT_pickedValue  (a1 : Int32) (m : x_m) : Option (Int32 × x_m) := ((F_CT_dimensionOf a1 m).bind fun r5 => (if x_ix r5.1 8 = true then ((F_CT_levelOf a1 r5.2).bind fun r12 => ((F_DM_valueAt (9 + 13 * r5.1.toNatClampNeg) r12.1 (r12.2.1 (9 + 13 * r5.1.toNatClampNeg) 2) r12.2).bind fun r19 => some (r19.1, r19.2))) else none))
theorem c_CT_pickedValue {G : x_G} {ex : Bool} {r : Int32 × x_m}  {a1 : Int32} {m : x_m} (h : F_CT_pickedValue a1 m = some r) : x_R G M_CT_pickedValue (x_rd 1) ex [.ref 4, .int a1] x_np (x_hp m) (x_pi r) := by
  unfold F_CT_pickedValue at h
  show x_W G M_CT_pickedValue (x_rd 1) (x_Q G (x_rd 1) ex (x_pi r)) ex x_np (x_hp m) 0 0 [(0, .ref 4), (1, .int a1)] [] 0
  refine x_aload_n d_CT_pickedValue_0 rfl rfl ?_
  refine x_gC d_CT_pickedValue_1 (f_CT_20 rfl) sh_CT hp_CT rfl ?_
  refine x_iload_n d_CT_pickedValue_4 rfl rfl ?_
  obtain ⟨r5, e5, h⟩ := x_bd h
  refine x_cSi (M2 := M_CT_dimensionOf) (As := [.int a1]) (st := [.ref 8]) d_CT_pickedValue_5 w_985 k_CT_dimensionOf (c_CT_dimensionOf e5) rfl ⟨Nat.le_of_ble_eq_true rfl, Nat.le_of_ble_eq_true rfl⟩ (Nat.le_of_ble_eq_true rfl) (Nat.le_of_ble_eq_true rfl) rfl ?_
  obtain ⟨g_8, h⟩ := x_gd h
  refine x_lR (b := 9 + 13 * r5.1.toNatClampNeg) d_CT_pickedValue_8 rfl sa_CT_dimensions ha_CT_dimensions g_8 (if_pos (x_ix_lt g_8)) ?_
  refine x_astore_n (lv2 := [(0, .ref 4), (1, .int a1), (2, .ref (9 + 13 * r5.1.toNatClampNeg))]) d_CT_pickedValue_9 rfl (by decide) rfl ?_
  refine x_aload_n d_CT_pickedValue_10 rfl rfl ?_
  refine x_iload_n d_CT_pickedValue_11 rfl rfl ?_
  obtain ⟨r12, e12, h⟩ := x_bd h
  refine x_cSi (M2 := M_CT_levelOf) (As := [.int a1]) (st := [.ref (9 + 13 * r5.1.toNatClampNeg)]) d_CT_pickedValue_12 w_988 k_CT_levelOf (c_CT_levelOf e12) rfl ⟨Nat.le_of_ble_eq_true rfl, Nat.le_of_ble_eq_true rfl⟩ (Nat.le_of_ble_eq_true rfl) (Nat.le_of_ble_eq_true rfl) rfl ?_
  refine x_aload_n d_CT_pickedValue_15 rfl rfl ?_
  refine x_gI d_CT_pickedValue_16 (f_CT_64 rfl) (sh_DM (x_DM_of (x_ix_lt g_8))) (hp_DM (x_DM_of (x_ix_lt g_8))) rfl ?_
  obtain ⟨r19, e19, h⟩ := x_bd h
  refine x_cVi (M2 := M_DM_valueAt) (As := [.int r12.1, .int (r12.2.1 (9 + 13 * r5.1.toNatClampNeg) 2)]) (st := []) d_CT_pickedValue_19 w_1044 k_DM_valueAt (c_DM_valueAt (x_DM_of (x_ix_lt g_8)) e19) rfl (sh_DM (x_DM_of (x_ix_lt g_8))) (hp_DM (x_DM_of (x_ix_lt g_8))) rfl ⟨Nat.le_of_ble_eq_true rfl, Nat.le_of_ble_eq_true rfl⟩ (Nat.le_of_ble_eq_true rfl) (Nat.le_of_ble_eq_true rfl) rfl ?_
  cases h
  exact x_ri d_CT_pickedValue_22 rfl rfl
def B_CN_isTrueFor_202 (p : Nat)  (s0 : Int32) (m : x_m) : Option (Int32 × x_m) := (if x_ix s0 119 = true then (if x_b1 (m.2.1 (p + 6) s0.toNatClampNeg) = true then some (m.2.1 (p + 6) s0.toNatClampNeg, m) else none) else none)
theorem b_CN_isTrueFor_202 {G : x_G} {ex : Bool} {r : Int32 × x_m} {p : Nat} (hp : x_CN p)  {s0 : Int32} {m : x_m} (h : B_CN_isTrueFor_202 p s0 m = some r) : x_W G M_CN_isTrueFor (x_rd 2) (x_Q G (x_rd 2) ex (x_pi r)) ex x_np (x_hp m) 0 0 [] [.int s0, .ref (p + 6)] 202 := by
  unfold B_CN_isTrueFor_202 at h
  obtain ⟨g_202, h⟩ := x_gd h
  refine x_lZ d_CN_isTrueFor_202 rfl (sa_CN_truths hp) (ha_CN_truths hp) g_202 ?_
  obtain ⟨g_203, h⟩ := x_gd h
  cases h
  exact x_ri d_CN_isTrueFor_203 rfl (x_b1_ok g_203).1
def B_CN_isTrueFor_171 (p : Nat) (K71 : Int32 → x_m → Option (Int32 × x_m)) (l2 : Int32) (s0 : Int32) (s1 : Int32) (m : x_m) : Option (Int32 × x_m) := (if x_ix s1 119 = true then K71 (l2 + 1) (x_wA m (p + 6) s1.toNatClampNeg (vp_nar .boolean s0)) else none)
theorem b_CN_isTrueFor_171 {G : x_G} {ex : Bool} {r : Int32 × x_m} {p : Nat} (hp : x_CN p) {K71 : Int32 → x_m → Option (Int32 × x_m)} (hK71 : ∀ (l2 : Int32) (m : x_m), K71 l2 m = some r → x_W G M_CN_isTrueFor (x_rd 2) (x_Q G (x_rd 2) ex (x_pi r)) ex x_np (x_hp m) 0 0 [(0, .ref p), (2, .int l2)] [] 71) {l2 : Int32} {s0 : Int32} {s1 : Int32} {m : x_m} (h : B_CN_isTrueFor_171 p K71 l2 s0 s1 m = some r) : x_W G M_CN_isTrueFor (x_rd 2) (x_Q G (x_rd 2) ex (x_pi r)) ex x_np (x_hp m) 0 0 [(0, .ref p), (2, .int l2)] [.int s0, .int s1, .ref (p + 6)] 171 := by
  unfold B_CN_isTrueFor_171 at h
  obtain ⟨g_171, h⟩ := x_gd h
  refine x_sZ d_CN_isTrueFor_171 rfl (sa_CN_truths hp) (ha_CN_truths hp) g_171 ?_
  refine x_iinc (v := l2 + 1) (lv2 := [(0, .ref p), (2, .int (l2 + 1))]) d_CN_isTrueFor_172 rfl rfl (by decide) rfl ?_
  refine x_goto (tgt := 71) d_CN_isTrueFor_175 (by decide) ?_
  exact hK71 _ _ h
def B_CN_isTrueFor_156 (p : Nat) (K71 : Int32 → x_m → Option (Int32 × x_m)) (l2 : Int32) (l5 : Int32) (s0 : Int32) (s1 : Int32) (m : x_m) : Option (Int32 × x_m) := (if x_ix l5 119 = true then (if s0 = (m.2.1 (p + 5) l5.toNatClampNeg) then B_CN_isTrueFor_171 p K71 l2 0 s1 m else B_CN_isTrueFor_171 p K71 l2 1 s1 m) else none)
theorem b_CN_isTrueFor_156 {G : x_G} {ex : Bool} {r : Int32 × x_m} {p : Nat} (hp : x_CN p) {K71 : Int32 → x_m → Option (Int32 × x_m)} (hK71 : ∀ (l2 : Int32) (m : x_m), K71 l2 m = some r → x_W G M_CN_isTrueFor (x_rd 2) (x_Q G (x_rd 2) ex (x_pi r)) ex x_np (x_hp m) 0 0 [(0, .ref p), (2, .int l2)] [] 71) {l2 : Int32} {l5 : Int32} {s0 : Int32} {s1 : Int32} {m : x_m} (h : B_CN_isTrueFor_156 p K71 l2 l5 s0 s1 m = some r) : x_W G M_CN_isTrueFor (x_rd 2) (x_Q G (x_rd 2) ex (x_pi r)) ex x_np (x_hp m) 0 0 [(0, .ref p), (2, .int l2), (5, .int l5)] [.int s0, .int s1, .ref (p + 6)] 156 := by
  unfold B_CN_isTrueFor_156 at h
  refine x_aload_n d_CN_isTrueFor_156 rfl rfl ?_
  refine x_gC d_CN_isTrueFor_157 (f_CN_28 rfl) (sh_CN hp) (hp_CN hp) rfl ?_
  refine x_iload d_CN_isTrueFor_160 rfl ?_
  obtain ⟨g_162, h⟩ := x_gd h
  refine x_lZ d_CN_isTrueFor_162 rfl (sa_CN_isNegated hp) (ha_CN_isNegated hp) g_162 ?_
  refine x_icmp_eq (tgt := 170) d_CN_isTrueFor_163 (by decide) (fun c_ => ?_) (fun c_ => ?_)
  · replace h := x_it h c_
    refine x_iconst (v := 0) d_CN_isTrueFor_170 (by decide) ?_
    refine x_sbk [0, 1] (lv2 := [(0, .ref p), (2, .int l2)]) rfl ?_; exact b_CN_isTrueFor_171 hp hK71 h
  · replace h := x_ie h c_
    refine x_iconst (v := 1) d_CN_isTrueFor_166 (by decide) ?_
    refine x_goto (tgt := 171) d_CN_isTrueFor_167 (by decide) ?_
    refine x_sbk [0, 1] (lv2 := [(0, .ref p), (2, .int l2)]) rfl ?_; exact b_CN_isTrueFor_171 hp hK71 h
def B_CN_isTrueFor_151 (p : Nat) (K71 : Int32 → x_m → Option (Int32 × x_m)) (l2 : Int32) (l5 : Int32) (s0 : Int32) (m : x_m) : Option (Int32 × x_m) := B_CN_isTrueFor_156 p K71 l2 l5 1 s0 m
theorem b_CN_isTrueFor_151 {G : x_G} {ex : Bool} {r : Int32 × x_m} {p : Nat} (hp : x_CN p) {K71 : Int32 → x_m → Option (Int32 × x_m)} (hK71 : ∀ (l2 : Int32) (m : x_m), K71 l2 m = some r → x_W G M_CN_isTrueFor (x_rd 2) (x_Q G (x_rd 2) ex (x_pi r)) ex x_np (x_hp m) 0 0 [(0, .ref p), (2, .int l2)] [] 71) {l2 : Int32} {l5 : Int32} {s0 : Int32} {m : x_m} (h : B_CN_isTrueFor_151 p K71 l2 l5 s0 m = some r) : x_W G M_CN_isTrueFor (x_rd 2) (x_Q G (x_rd 2) ex (x_pi r)) ex x_np (x_hp m) 0 0 [(0, .ref p), (2, .int l2), (5, .int l5)] [.int s0, .ref (p + 6)] 151 := by
  unfold B_CN_isTrueFor_151 at h
  refine x_iconst (v := 1) d_CN_isTrueFor_151 (by decide) ?_
  refine x_goto (tgt := 156) d_CN_isTrueFor_152 (by decide) ?_
  exact b_CN_isTrueFor_156 hp hK71 h
def B_CN_isTrueFor_138 (p : Nat) (K71 : Int32 → x_m → Option (Int32 × x_m)) (l2 : Int32) (l5 : Int32) (s0 : Int32) (m : x_m) : Option (Int32 × x_m) := B_CN_isTrueFor_156 p K71 l2 l5 0 s0 m
theorem b_CN_isTrueFor_138 {G : x_G} {ex : Bool} {r : Int32 × x_m} {p : Nat} (hp : x_CN p) {K71 : Int32 → x_m → Option (Int32 × x_m)} (hK71 : ∀ (l2 : Int32) (m : x_m), K71 l2 m = some r → x_W G M_CN_isTrueFor (x_rd 2) (x_Q G (x_rd 2) ex (x_pi r)) ex x_np (x_hp m) 0 0 [(0, .ref p), (2, .int l2)] [] 71) {l2 : Int32} {l5 : Int32} {s0 : Int32} {m : x_m} (h : B_CN_isTrueFor_138 p K71 l2 l5 s0 m = some r) : x_W G M_CN_isTrueFor (x_rd 2) (x_Q G (x_rd 2) ex (x_pi r)) ex x_np (x_hp m) 0 0 [(0, .ref p), (2, .int l2), (5, .int l5)] [.int s0, .ref (p + 6)] 138 := by
  unfold B_CN_isTrueFor_138 at h
  refine x_iconst (v := 0) d_CN_isTrueFor_138 (by decide) ?_
  refine x_goto (tgt := 156) d_CN_isTrueFor_139 (by decide) ?_
  exact b_CN_isTrueFor_156 hp hK71 h
def B_CN_isTrueFor_71 (p : Nat)  : Nat → Int32 → x_m → Option (Int32 × x_m)
  | 0, _, _ => none
  | f_ + 1, l2, m => (if (m.1 p 3) ≤ l2 then (if (m.1 p 3) = 0 then B_CN_isTrueFor_202 p 0 m else B_CN_isTrueFor_202 p ((60 + (m.1 p 3)) - 1) m) else (if x_ix l2 59 = true then (if x_ix (m.2.1 (p + 2) l2.toNatClampNeg) 119 = true then (if x_ix l2 59 = true then (if x_ix (m.2.1 (p + 3) l2.toNatClampNeg) 119 = true then (if x_ix l2 59 = true then (if (m.2.1 (p + 4) l2.toNatClampNeg) = 0 then (if (m.2.1 (p + 6) (m.2.1 (p + 2) l2.toNatClampNeg).toNatClampNeg) = 0 then (if (m.2.1 (p + 6) (m.2.1 (p + 3) l2.toNatClampNeg).toNatClampNeg) = 0 then B_CN_isTrueFor_156 p (B_CN_isTrueFor_71 p f_) l2 (60 + l2) 0 (60 + l2) m else B_CN_isTrueFor_151 p (B_CN_isTrueFor_71 p f_) l2 (60 + l2) (60 + l2) m) else B_CN_isTrueFor_151 p (B_CN_isTrueFor_71 p f_) l2 (60 + l2) (60 + l2) m) else (if (m.2.1 (p + 6) (m.2.1 (p + 2) l2.toNatClampNeg).toNatClampNeg) = 0 then B_CN_isTrueFor_138 p (B_CN_isTrueFor_71 p f_) l2 (60 + l2) (60 + l2) m else (if (m.2.1 (p + 6) (m.2.1 (p + 3) l2.toNatClampNeg).toNatClampNeg) = 0 then B_CN_isTrueFor_138 p (B_CN_isTrueFor_71 p f_) l2 (60 + l2) (60 + l2) m else B_CN_isTrueFor_156 p (B_CN_isTrueFor_71 p f_) l2 (60 + l2) 1 (60 + l2) m))) else none) else none) else none) else none) else none))
theorem b_CN_isTrueFor_71 {G : x_G} {ex : Bool} {r : Int32 × x_m} {p : Nat} (hp : x_CN p)  : ∀ (f_ : Nat) (l2 : Int32) (m : x_m), B_CN_isTrueFor_71 p f_ l2 m = some r → x_W G M_CN_isTrueFor (x_rd 2) (x_Q G (x_rd 2) ex (x_pi r)) ex x_np (x_hp m) 0 0 [(0, .ref p), (2, .int l2)] [] 71 := by
  intro f_
  induction f_ with
  | zero => intro l2 m h; exact nomatch h
  | succ f_ ih =>
    intro l2 m h
    rw [B_CN_isTrueFor_71] at h
    have hK71 := ih
    refine x_iload_n d_CN_isTrueFor_71 rfl rfl ?_
    refine x_aload_n d_CN_isTrueFor_72 rfl rfl ?_
    refine x_gI d_CN_isTrueFor_73 (f_CN_48 rfl) (sh_CN hp) (hp_CN hp) rfl ?_
    refine x_icmp_ge (tgt := 178) d_CN_isTrueFor_76 (by decide) (fun c_ => ?_) (fun c_ => ?_)
    · replace h := x_it h c_
      refine x_aload_n d_CN_isTrueFor_178 rfl rfl ?_
      refine x_gC d_CN_isTrueFor_179 (f_CN_31 rfl) (sh_CN hp) (hp_CN hp) rfl ?_
      refine x_aload_n d_CN_isTrueFor_182 rfl rfl ?_
      refine x_gI d_CN_isTrueFor_183 (f_CN_48 rfl) (sh_CN hp) (hp_CN hp) rfl ?_
      refine x_if_ne (tgt := 193) d_CN_isTrueFor_186 (by decide) (fun c_ => ?_) (fun c_ => ?_)
      · replace h := x_ie h c_
        refine x_bipush (v := 60) d_CN_isTrueFor_193 (by decide) ?_
        refine x_aload_n d_CN_isTrueFor_195 rfl rfl ?_
        refine x_gI d_CN_isTrueFor_196 (f_CN_48 rfl) (sh_CN hp) (hp_CN hp) rfl ?_
        refine x_iadd d_CN_isTrueFor_199 ?_
        refine x_iconst (v := 1) d_CN_isTrueFor_200 (by decide) ?_
        refine x_isub d_CN_isTrueFor_201 ?_
        refine x_sbk [] (lv2 := []) rfl ?_; exact b_CN_isTrueFor_202 hp h
      · replace h := x_it h c_
        refine x_iconst (v := 0) d_CN_isTrueFor_189 (by decide) ?_
        refine x_goto (tgt := 202) d_CN_isTrueFor_190 (by decide) ?_
        refine x_sbk [] (lv2 := []) rfl ?_; exact b_CN_isTrueFor_202 hp h
    · replace h := x_ie h c_
      refine x_aload_n d_CN_isTrueFor_79 rfl rfl ?_
      refine x_gC d_CN_isTrueFor_80 (f_CN_31 rfl) (sh_CN hp) (hp_CN hp) rfl ?_
      refine x_aload_n d_CN_isTrueFor_83 rfl rfl ?_
      refine x_gC d_CN_isTrueFor_84 (f_CN_17 rfl) (sh_CN hp) (hp_CN hp) rfl ?_
      refine x_iload_n d_CN_isTrueFor_87 rfl rfl ?_
      obtain ⟨g_88, h⟩ := x_gd h
      refine x_lI d_CN_isTrueFor_88 rfl (sa_CN_lefts hp) (ha_CN_lefts hp) g_88 ?_
      obtain ⟨g_89, h⟩ := x_gd h
      refine x_lZ d_CN_isTrueFor_89 rfl (sa_CN_truths hp) (ha_CN_truths hp) g_89 ?_
      refine x_istore_n (lv2 := [(0, .ref p), (2, .int l2), (3, .int (m.2.1 (p + 6) (m.2.1 (p + 2) l2.toNatClampNeg).toNatClampNeg))]) d_CN_isTrueFor_90 rfl (by decide) rfl ?_
      refine x_aload_n d_CN_isTrueFor_91 rfl rfl ?_
      refine x_gC d_CN_isTrueFor_92 (f_CN_31 rfl) (sh_CN hp) (hp_CN hp) rfl ?_
      refine x_aload_n d_CN_isTrueFor_95 rfl rfl ?_
      refine x_gC d_CN_isTrueFor_96 (f_CN_21 rfl) (sh_CN hp) (hp_CN hp) rfl ?_
      refine x_iload_n d_CN_isTrueFor_99 rfl rfl ?_
      obtain ⟨g_100, h⟩ := x_gd h
      refine x_lI d_CN_isTrueFor_100 rfl (sa_CN_rights hp) (ha_CN_rights hp) g_100 ?_
      obtain ⟨g_101, h⟩ := x_gd h
      refine x_lZ d_CN_isTrueFor_101 rfl (sa_CN_truths hp) (ha_CN_truths hp) g_101 ?_
      refine x_istore (lv2 := [(0, .ref p), (2, .int l2), (3, .int (m.2.1 (p + 6) (m.2.1 (p + 2) l2.toNatClampNeg).toNatClampNeg)), (4, .int (m.2.1 (p + 6) (m.2.1 (p + 3) l2.toNatClampNeg).toNatClampNeg))]) d_CN_isTrueFor_102 (by decide) rfl ?_
      refine x_bipush (v := 60) d_CN_isTrueFor_104 (by decide) ?_
      refine x_iload_n d_CN_isTrueFor_106 rfl rfl ?_
      refine x_iadd d_CN_isTrueFor_107 ?_
      refine x_istore (lv2 := [(0, .ref p), (2, .int l2), (3, .int (m.2.1 (p + 6) (m.2.1 (p + 2) l2.toNatClampNeg).toNatClampNeg)), (4, .int (m.2.1 (p + 6) (m.2.1 (p + 3) l2.toNatClampNeg).toNatClampNeg)), (5, .int (60 + l2))]) d_CN_isTrueFor_108 (by decide) rfl ?_
      refine x_aload_n d_CN_isTrueFor_110 rfl rfl ?_
      refine x_gC d_CN_isTrueFor_111 (f_CN_31 rfl) (sh_CN hp) (hp_CN hp) rfl ?_
      refine x_iload d_CN_isTrueFor_114 rfl ?_
      refine x_aload_n d_CN_isTrueFor_116 rfl rfl ?_
      refine x_gC d_CN_isTrueFor_117 (f_CN_24 rfl) (sh_CN hp) (hp_CN hp) rfl ?_
      refine x_iload_n d_CN_isTrueFor_120 rfl rfl ?_
      obtain ⟨g_121, h⟩ := x_gd h
      refine x_lZ d_CN_isTrueFor_121 rfl (sa_CN_isAnd hp) (ha_CN_isAnd hp) g_121 ?_
      refine x_if_eq (tgt := 142) d_CN_isTrueFor_122 (by decide) (fun c_ => ?_) (fun c_ => ?_)
      · replace h := x_it h c_
        refine x_iload_n d_CN_isTrueFor_142 rfl rfl ?_
        refine x_if_ne (tgt := 151) d_CN_isTrueFor_143 (by decide) (fun c_ => ?_) (fun c_ => ?_)
        · replace h := x_ie h c_
          refine x_sbk [0, 1, 4] (lv2 := [(0, .ref p), (2, .int l2), (5, .int (60 + l2))]) rfl ?_; exact b_CN_isTrueFor_151 hp hK71 h
        · replace h := x_it h c_
          refine x_iload d_CN_isTrueFor_146 rfl ?_
          refine x_if_eq (tgt := 155) d_CN_isTrueFor_148 (by decide) (fun c_ => ?_) (fun c_ => ?_)
          · replace h := x_it h c_
            refine x_iconst (v := 0) d_CN_isTrueFor_155 (by decide) ?_
            refine x_sbk [0, 1, 4] (lv2 := [(0, .ref p), (2, .int l2), (5, .int (60 + l2))]) rfl ?_; exact b_CN_isTrueFor_156 hp hK71 h
          · replace h := x_ie h c_
            refine x_sbk [0, 1, 4] (lv2 := [(0, .ref p), (2, .int l2), (5, .int (60 + l2))]) rfl ?_; exact b_CN_isTrueFor_151 hp hK71 h
      · replace h := x_ie h c_
        refine x_iload_n d_CN_isTrueFor_125 rfl rfl ?_
        refine x_if_eq (tgt := 138) d_CN_isTrueFor_126 (by decide) (fun c_ => ?_) (fun c_ => ?_)
        · replace h := x_it h c_
          refine x_sbk [0, 1, 4] (lv2 := [(0, .ref p), (2, .int l2), (5, .int (60 + l2))]) rfl ?_; exact b_CN_isTrueFor_138 hp hK71 h
        · replace h := x_ie h c_
          refine x_iload d_CN_isTrueFor_129 rfl ?_
          refine x_if_eq (tgt := 138) d_CN_isTrueFor_131 (by decide) (fun c_ => ?_) (fun c_ => ?_)
          · replace h := x_it h c_
            refine x_sbk [0, 1, 4] (lv2 := [(0, .ref p), (2, .int l2), (5, .int (60 + l2))]) rfl ?_; exact b_CN_isTrueFor_138 hp hK71 h
          · replace h := x_ie h c_
            refine x_iconst (v := 1) d_CN_isTrueFor_134 (by decide) ?_
            refine x_goto (tgt := 156) d_CN_isTrueFor_135 (by decide) ?_
            refine x_sbk [0, 1, 4] (lv2 := [(0, .ref p), (2, .int l2), (5, .int (60 + l2))]) rfl ?_; exact b_CN_isTrueFor_156 hp hK71 h
def B_CN_isTrueFor_62 (p : Nat) (K11 : Int32 → x_m → Option (Int32 × x_m)) (l2 : Int32) (s0 : Int32) (s1 : Int32) (m : x_m) : Option (Int32 × x_m) := (if x_ix s1 119 = true then K11 (l2 + 1) (x_wA m (p + 6) s1.toNatClampNeg (vp_nar .boolean s0)) else none)
theorem b_CN_isTrueFor_62 {G : x_G} {ex : Bool} {r : Int32 × x_m} {p : Nat} (hp : x_CN p) {K11 : Int32 → x_m → Option (Int32 × x_m)} (hK11 : ∀ (l2 : Int32) (m : x_m), K11 l2 m = some r → x_W G M_CN_isTrueFor (x_rd 2) (x_Q G (x_rd 2) ex (x_pi r)) ex x_np (x_hp m) 0 0 [(0, .ref p), (1, .ref 4), (2, .int l2)] [] 11) {l2 : Int32} {s0 : Int32} {s1 : Int32} {m : x_m} (h : B_CN_isTrueFor_62 p K11 l2 s0 s1 m = some r) : x_W G M_CN_isTrueFor (x_rd 2) (x_Q G (x_rd 2) ex (x_pi r)) ex x_np (x_hp m) 0 0 [(0, .ref p), (1, .ref 4), (2, .int l2)] [.int s0, .int s1, .ref (p + 6)] 62 := by
  unfold B_CN_isTrueFor_62 at h
  obtain ⟨g_62, h⟩ := x_gd h
  refine x_sZ d_CN_isTrueFor_62 rfl (sa_CN_truths hp) (ha_CN_truths hp) g_62 ?_
  refine x_iinc (v := l2 + 1) (lv2 := [(0, .ref p), (1, .ref 4), (2, .int (l2 + 1))]) d_CN_isTrueFor_63 rfl rfl (by decide) rfl ?_
  refine x_goto (tgt := 11) d_CN_isTrueFor_66 (by decide) ?_
  exact hK11 _ _ h
def B_CN_isTrueFor_11 (p : Nat)  : Nat → Int32 → x_m → Option (Int32 × x_m)
  | 0, _, _ => none
  | f_ + 1, l2, m => (if (m.1 p 0) ≤ l2 then B_CN_isTrueFor_71 p x_fu 0 m else (if x_ix l2 60 = true then ((F_CT_pickedValue (m.1 (p + 10 + 2 * l2.toNatClampNeg) 0) m).bind fun r29 => (if x_ix l2 60 = true then ((F_CP_accepts (p + 10 + 2 * l2.toNatClampNeg) r29.1 r29.2).bind fun r45 => (if x_ix l2 119 = true then (if r45.1 = (r45.2.2.1 (p + 5) l2.toNatClampNeg) then B_CN_isTrueFor_62 p (B_CN_isTrueFor_11 p f_) l2 0 l2 r45.2 else B_CN_isTrueFor_62 p (B_CN_isTrueFor_11 p f_) l2 1 l2 r45.2) else none)) else none)) else none))
theorem b_CN_isTrueFor_11 {G : x_G} {ex : Bool} {r : Int32 × x_m} {p : Nat} (hp : x_CN p)  : ∀ (f_ : Nat) (l2 : Int32) (m : x_m), B_CN_isTrueFor_11 p f_ l2 m = some r → x_W G M_CN_isTrueFor (x_rd 2) (x_Q G (x_rd 2) ex (x_pi r)) ex x_np (x_hp m) 0 0 [(0, .ref p), (1, .ref 4), (2, .int l2)] [] 11 := by
  intro f_
  induction f_ with
  | zero => intro l2 m h; exact nomatch h
  | succ f_ ih =>
    intro l2 m h
    rw [B_CN_isTrueFor_11] at h
    have hK11 := ih
    refine x_iload_n d_CN_isTrueFor_11 rfl rfl ?_
    refine x_aload_n d_CN_isTrueFor_12 rfl rfl ?_
    refine x_gI d_CN_isTrueFor_13 (f_CN_44 rfl) (sh_CN hp) (hp_CN hp) rfl ?_
    refine x_icmp_ge (tgt := 69) d_CN_isTrueFor_16 (by decide) (fun c_ => ?_) (fun c_ => ?_)
    · replace h := x_it h c_
      refine x_iconst (v := 0) d_CN_isTrueFor_69 (by decide) ?_
      refine x_istore_n (lv2 := [(0, .ref p), (1, .ref 4), (2, .int 0)]) d_CN_isTrueFor_70 rfl (by decide) rfl ?_
      refine x_sbk [0, 2] (lv2 := [(0, .ref p), (2, .int 0)]) rfl ?_; exact b_CN_isTrueFor_71 hp _ _ _ h
    · replace h := x_ie h c_
      refine x_aload_n d_CN_isTrueFor_19 rfl rfl ?_
      refine x_aload_n d_CN_isTrueFor_20 rfl rfl ?_
      refine x_gC d_CN_isTrueFor_21 (f_CN_13 rfl) (sh_CN hp) (hp_CN hp) rfl ?_
      refine x_iload_n d_CN_isTrueFor_24 rfl rfl ?_
      obtain ⟨g_25, h⟩ := x_gd h
      refine x_lR (b := p + 10 + 2 * l2.toNatClampNeg) d_CN_isTrueFor_25 rfl (sa_CN_comparisons hp) (ha_CN_comparisons hp) g_25 (if_pos (x_ix_lt g_25)) ?_
      refine x_gI d_CN_isTrueFor_26 (f_CN_65 rfl) (sh_CP (x_CP_of hp (x_ix_lt g_25))) (hp_CP (x_CP_of hp (x_ix_lt g_25))) rfl ?_
      obtain ⟨r29, e29, h⟩ := x_bd h
      refine x_cVi (M2 := M_CT_pickedValue) (As := [.int (m.1 (p + 10 + 2 * l2.toNatClampNeg) 0)]) (st := []) d_CN_isTrueFor_29 w_1040 k_CT_pickedValue (c_CT_pickedValue e29) rfl sh_CT hp_CT rfl ⟨Nat.le_of_ble_eq_true rfl, Nat.le_of_ble_eq_true rfl⟩ (Nat.le_of_ble_eq_true rfl) (Nat.le_of_ble_eq_true rfl) rfl ?_
      refine x_istore_n (lv2 := [(0, .ref p), (1, .ref 4), (2, .int l2), (3, .int r29.1)]) d_CN_isTrueFor_32 rfl (by decide) rfl ?_
      refine x_aload_n d_CN_isTrueFor_33 rfl rfl ?_
      refine x_gC d_CN_isTrueFor_34 (f_CN_31 rfl) (sh_CN hp) (hp_CN hp) rfl ?_
      refine x_iload_n d_CN_isTrueFor_37 rfl rfl ?_
      refine x_aload_n d_CN_isTrueFor_38 rfl rfl ?_
      refine x_gC d_CN_isTrueFor_39 (f_CN_13 rfl) (sh_CN hp) (hp_CN hp) rfl ?_
      refine x_iload_n d_CN_isTrueFor_42 rfl rfl ?_
      obtain ⟨g_43, h⟩ := x_gd h
      refine x_lR (b := p + 10 + 2 * l2.toNatClampNeg) d_CN_isTrueFor_43 rfl (sa_CN_comparisons hp) (ha_CN_comparisons hp) g_43 (if_pos (x_ix_lt g_43)) ?_
      refine x_iload_n d_CN_isTrueFor_44 rfl rfl ?_
      obtain ⟨r45, e45, h⟩ := x_bd h
      refine x_cVi (M2 := M_CP_accepts) (As := [.int r29.1]) (st := [.int l2, .ref (p + 6)]) d_CN_isTrueFor_45 w_1045 k_CP_accepts (c_CP_accepts (x_CP_of hp (x_ix_lt g_43)) e45) rfl (sh_CP (x_CP_of hp (x_ix_lt g_43))) (hp_CP (x_CP_of hp (x_ix_lt g_43))) rfl ⟨Nat.le_of_ble_eq_true rfl, Nat.le_of_ble_eq_true rfl⟩ (Nat.le_of_ble_eq_true rfl) (Nat.le_of_ble_eq_true rfl) rfl ?_
      refine x_aload_n d_CN_isTrueFor_48 rfl rfl ?_
      refine x_gC d_CN_isTrueFor_49 (f_CN_28 rfl) (sh_CN hp) (hp_CN hp) rfl ?_
      refine x_iload_n d_CN_isTrueFor_52 rfl rfl ?_
      obtain ⟨g_53, h⟩ := x_gd h
      refine x_lZ d_CN_isTrueFor_53 rfl (sa_CN_isNegated hp) (ha_CN_isNegated hp) g_53 ?_
      refine x_icmp_eq (tgt := 61) d_CN_isTrueFor_54 (by decide) (fun c_ => ?_) (fun c_ => ?_)
      · replace h := x_it h c_
        refine x_iconst (v := 0) d_CN_isTrueFor_61 (by decide) ?_
        refine x_sbk [0, 1, 2] (lv2 := [(0, .ref p), (1, .ref 4), (2, .int l2)]) rfl ?_; exact b_CN_isTrueFor_62 hp hK11 h
      · replace h := x_ie h c_
        refine x_iconst (v := 1) d_CN_isTrueFor_57 (by decide) ?_
        refine x_goto (tgt := 62) d_CN_isTrueFor_58 (by decide) ?_
        refine x_sbk [0, 1, 2] (lv2 := [(0, .ref p), (1, .ref 4), (2, .int l2)]) rfl ?_; exact b_CN_isTrueFor_62 hp hK11 h
def F_CN_isTrueFor (p : Nat)  (m : x_m) : Option (Int32 × x_m) := (if (m.1 p 0) = 0 then some (1, m) else B_CN_isTrueFor_11 p x_fu 0 m)
theorem c_CN_isTrueFor {G : x_G} {ex : Bool} {r : Int32 × x_m} {p : Nat} (hp : x_CN p)  {m : x_m} (h : F_CN_isTrueFor p m = some r) : x_R G M_CN_isTrueFor (x_rd 2) ex [.ref p, .ref 4] x_np (x_hp m) (x_pi r) := by
  unfold F_CN_isTrueFor at h
  show x_W G M_CN_isTrueFor (x_rd 2) (x_Q G (x_rd 2) ex (x_pi r)) ex x_np (x_hp m) 0 0 [(0, .ref p), (1, .ref 4)] [] 0
  refine x_aload_n d_CN_isTrueFor_0 rfl rfl ?_
  refine x_gI d_CN_isTrueFor_1 (f_CN_44 rfl) (sh_CN hp) (hp_CN hp) rfl ?_
  refine x_if_ne (tgt := 9) d_CN_isTrueFor_4 (by decide) (fun c_ => ?_) (fun c_ => ?_)
  · replace h := x_ie h c_
    refine x_iconst (v := 0) d_CN_isTrueFor_9 (by decide) ?_
    refine x_istore_n (lv2 := [(0, .ref p), (1, .ref 4), (2, .int 0)]) d_CN_isTrueFor_10 rfl (by decide) rfl ?_
    exact b_CN_isTrueFor_11 hp _ _ _ h
  · replace h := x_it h c_
    refine x_iconst (v := 1) d_CN_isTrueFor_7 (by decide) ?_
    cases h
    exact x_ri d_CN_isTrueFor_8 rfl rfl
