def M_QU_firstUngrouped : x_M := (⟨"QuestionReader$Question", "firstUngrouped", "()I"⟩, prog_10_method_9_code, 3, some (.int), [])
theorem d_QU_firstUngrouped_0 : decode M_QU_firstUngrouped.2.1 0 = .ok (.iconst 0, 1) := by decide +kernel
theorem d_QU_firstUngrouped_1 : decode M_QU_firstUngrouped.2.1 1 = .ok (.istore_n 1, 1) := by decide +kernel
theorem d_QU_firstUngrouped_2 : decode M_QU_firstUngrouped.2.1 2 = .ok (.iload_n 1, 1) := by decide +kernel
theorem d_QU_firstUngrouped_3 : decode M_QU_firstUngrouped.2.1 3 = .ok (.aload_n 0, 1) := by decide +kernel
theorem d_QU_firstUngrouped_4 : decode M_QU_firstUngrouped.2.1 4 = .ok (.getfield 34, 3) := by decide +kernel
theorem d_QU_firstUngrouped_7 : decode M_QU_firstUngrouped.2.1 7 = .ok (.if_icmp .ge 58, 3) := by decide +kernel
theorem d_QU_firstUngrouped_10 : decode M_QU_firstUngrouped.2.1 10 = .ok (.aload_n 0, 1) := by decide +kernel
theorem d_QU_firstUngrouped_11 : decode M_QU_firstUngrouped.2.1 11 = .ok (.getfield 11, 3) := by decide +kernel
theorem d_QU_firstUngrouped_14 : decode M_QU_firstUngrouped.2.1 14 = .ok (.iload_n 1, 1) := by decide +kernel
theorem d_QU_firstUngrouped_15 : decode M_QU_firstUngrouped.2.1 15 = .ok (.iaload, 1) := by decide +kernel
theorem d_QU_firstUngrouped_16 : decode M_QU_firstUngrouped.2.1 16 = .ok (.ifCond .eq 13, 3) := by decide +kernel
theorem d_QU_firstUngrouped_19 : decode M_QU_firstUngrouped.2.1 19 = .ok (.aload_n 0, 1) := by decide +kernel
theorem d_QU_firstUngrouped_20 : decode M_QU_firstUngrouped.2.1 20 = .ok (.getfield 11, 3) := by decide +kernel
theorem d_QU_firstUngrouped_23 : decode M_QU_firstUngrouped.2.1 23 = .ok (.iload_n 1, 1) := by decide +kernel
theorem d_QU_firstUngrouped_24 : decode M_QU_firstUngrouped.2.1 24 = .ok (.iaload, 1) := by decide +kernel
theorem d_QU_firstUngrouped_25 : decode M_QU_firstUngrouped.2.1 25 = .ok (.iconst 5, 1) := by decide +kernel
theorem d_QU_firstUngrouped_26 : decode M_QU_firstUngrouped.2.1 26 = .ok (.if_icmp .ne 7, 3) := by decide +kernel
theorem d_QU_firstUngrouped_29 : decode M_QU_firstUngrouped.2.1 29 = .ok (.iconst 1, 1) := by decide +kernel
theorem d_QU_firstUngrouped_30 : decode M_QU_firstUngrouped.2.1 30 = .ok (.goto 4, 3) := by decide +kernel
theorem d_QU_firstUngrouped_33 : decode M_QU_firstUngrouped.2.1 33 = .ok (.iconst 0, 1) := by decide +kernel
theorem d_QU_firstUngrouped_34 : decode M_QU_firstUngrouped.2.1 34 = .ok (.istore_n 2, 1) := by decide +kernel
theorem d_QU_firstUngrouped_35 : decode M_QU_firstUngrouped.2.1 35 = .ok (.iload_n 2, 1) := by decide +kernel
theorem d_QU_firstUngrouped_36 : decode M_QU_firstUngrouped.2.1 36 = .ok (.ifCond .eq 23, 3) := by decide +kernel
theorem d_QU_firstUngrouped_39 : decode M_QU_firstUngrouped.2.1 39 = .ok (.aload_n 0, 1) := by decide +kernel
theorem d_QU_firstUngrouped_40 : decode M_QU_firstUngrouped.2.1 40 = .ok (.aload_n 0, 1) := by decide +kernel
theorem d_QU_firstUngrouped_41 : decode M_QU_firstUngrouped.2.1 41 = .ok (.getfield 15, 3) := by decide +kernel
theorem d_QU_firstUngrouped_44 : decode M_QU_firstUngrouped.2.1 44 = .ok (.iload_n 1, 1) := by decide +kernel
theorem d_QU_firstUngrouped_45 : decode M_QU_firstUngrouped.2.1 45 = .ok (.iaload, 1) := by decide +kernel
theorem d_QU_firstUngrouped_46 : decode M_QU_firstUngrouped.2.1 46 = .ok (.invokevirtual 61, 3) := by decide +kernel
theorem d_QU_firstUngrouped_49 : decode M_QU_firstUngrouped.2.1 49 = .ok (.ifCond .ne 10, 3) := by decide +kernel
theorem d_QU_firstUngrouped_52 : decode M_QU_firstUngrouped.2.1 52 = .ok (.aload_n 0, 1) := by decide +kernel
theorem d_QU_firstUngrouped_53 : decode M_QU_firstUngrouped.2.1 53 = .ok (.getfield 18, 3) := by decide +kernel
theorem d_QU_firstUngrouped_56 : decode M_QU_firstUngrouped.2.1 56 = .ok (.iload_n 1, 1) := by decide +kernel
theorem d_QU_firstUngrouped_57 : decode M_QU_firstUngrouped.2.1 57 = .ok (.iaload, 1) := by decide +kernel
theorem d_QU_firstUngrouped_58 : decode M_QU_firstUngrouped.2.1 58 = .ok (.ireturn, 1) := by decide +kernel
theorem d_QU_firstUngrouped_59 : decode M_QU_firstUngrouped.2.1 59 = .ok (.iinc 1 1, 3) := by decide +kernel
theorem d_QU_firstUngrouped_62 : decode M_QU_firstUngrouped.2.1 62 = .ok (.goto (-60), 3) := by decide +kernel
theorem d_QU_firstUngrouped_65 : decode M_QU_firstUngrouped.2.1 65 = .ok (.iconst (-1), 1) := by decide +kernel
theorem d_QU_firstUngrouped_66 : decode M_QU_firstUngrouped.2.1 66 = .ok (.ireturn, 1) := by decide +kernel
theorem k_QU_firstUngrouped : x_kV M_QU_firstUngrouped "QuestionReader$Question" 0 := ⟨⟨by decide, Or.inl ⟨w_684, rfl⟩⟩, w_682, w_683, ⟨by decide, by decide⟩, by decide +kernel⟩
def M_CN_clear : x_M := (⟨"QuestionReader$Condition", "clear", "()V"⟩, prog_5_method_2_code, 1, none, [])
theorem d_CN_clear_0 : decode M_CN_clear.2.1 0 = .ok (.aload_n 0, 1) := by decide +kernel
theorem d_CN_clear_1 : decode M_CN_clear.2.1 1 = .ok (.iconst 0, 1) := by decide +kernel
theorem d_CN_clear_2 : decode M_CN_clear.2.1 2 = .ok (.putfield 44, 3) := by decide +kernel
theorem d_CN_clear_5 : decode M_CN_clear.2.1 5 = .ok (.aload_n 0, 1) := by decide +kernel
theorem d_CN_clear_6 : decode M_CN_clear.2.1 6 = .ok (.iconst 0, 1) := by decide +kernel
theorem d_CN_clear_7 : decode M_CN_clear.2.1 7 = .ok (.putfield 48, 3) := by decide +kernel
theorem d_CN_clear_10 : decode M_CN_clear.2.1 10 = .ok (.aload_n 0, 1) := by decide +kernel
theorem d_CN_clear_11 : decode M_CN_clear.2.1 11 = .ok (.iconst 0, 1) := by decide +kernel
theorem d_CN_clear_12 : decode M_CN_clear.2.1 12 = .ok (.putfield 51, 3) := by decide +kernel
theorem d_CN_clear_15 : decode M_CN_clear.2.1 15 = .ok (.aload_n 0, 1) := by decide +kernel
theorem d_CN_clear_16 : decode M_CN_clear.2.1 16 = .ok (.invokevirtual 54, 3) := by decide +kernel
theorem d_CN_clear_19 : decode M_CN_clear.2.1 19 = .ok (.return_, 1) := by decide +kernel
theorem k_CN_clear : x_kV M_CN_clear "QuestionReader$Condition" 0 := ⟨⟨by decide, Or.inl ⟨w_381, rfl⟩⟩, w_379, w_380, ⟨by decide, by decide⟩, by decide +kernel⟩
def M_QU_clear : x_M := (⟨"QuestionReader$Question", "clear", "()V"⟩, prog_10_method_2_code, 1, none, [])
theorem d_QU_clear_0 : decode M_QU_clear.2.1 0 = .ok (.aload_n 0, 1) := by decide +kernel
theorem d_QU_clear_1 : decode M_QU_clear.2.1 1 = .ok (.iconst 0, 1) := by decide +kernel
theorem d_QU_clear_2 : decode M_QU_clear.2.1 2 = .ok (.putfield 34, 3) := by decide +kernel
theorem d_QU_clear_5 : decode M_QU_clear.2.1 5 = .ok (.aload_n 0, 1) := by decide +kernel
theorem d_QU_clear_6 : decode M_QU_clear.2.1 6 = .ok (.iconst 0, 1) := by decide +kernel
theorem d_QU_clear_7 : decode M_QU_clear.2.1 7 = .ok (.putfield 38, 3) := by decide +kernel
theorem d_QU_clear_10 : decode M_QU_clear.2.1 10 = .ok (.aload_n 0, 1) := by decide +kernel
theorem d_QU_clear_11 : decode M_QU_clear.2.1 11 = .ok (.iconst 0, 1) := by decide +kernel
theorem d_QU_clear_12 : decode M_QU_clear.2.1 12 = .ok (.putfield 41, 3) := by decide +kernel
theorem d_QU_clear_15 : decode M_QU_clear.2.1 15 = .ok (.aload_n 0, 1) := by decide +kernel
theorem d_QU_clear_16 : decode M_QU_clear.2.1 16 = .ok (.getfield 30, 3) := by decide +kernel
theorem d_QU_clear_19 : decode M_QU_clear.2.1 19 = .ok (.invokevirtual 44, 3) := by decide +kernel
theorem d_QU_clear_22 : decode M_QU_clear.2.1 22 = .ok (.return_, 1) := by decide +kernel
theorem k_QU_clear : x_kV M_QU_clear "QuestionReader$Question" 0 := ⟨⟨by decide, Or.inl ⟨w_377, rfl⟩⟩, w_375, w_376, ⟨by decide, by decide⟩, by decide +kernel⟩
def M_QU_restart : x_M := (⟨"QuestionReader$Question", "restart", "()V"⟩, prog_10_method_3_code, 1, none, [])
theorem d_QU_restart_0 : decode M_QU_restart.2.1 0 = .ok (.aload_n 0, 1) := by decide +kernel
theorem d_QU_restart_1 : decode M_QU_restart.2.1 1 = .ok (.invokevirtual 47, 3) := by decide +kernel
theorem d_QU_restart_4 : decode M_QU_restart.2.1 4 = .ok (.aload_n 0, 1) := by decide +kernel
theorem d_QU_restart_5 : decode M_QU_restart.2.1 5 = .ok (.getfield 24, 3) := by decide +kernel
theorem d_QU_restart_8 : decode M_QU_restart.2.1 8 = .ok (.iconst 0, 1) := by decide +kernel
theorem d_QU_restart_9 : decode M_QU_restart.2.1 9 = .ok (.iconst 0, 1) := by decide +kernel
theorem d_QU_restart_10 : decode M_QU_restart.2.1 10 = .ok (.iastore, 1) := by decide +kernel
theorem d_QU_restart_11 : decode M_QU_restart.2.1 11 = .ok (.aload_n 0, 1) := by decide +kernel
theorem d_QU_restart_12 : decode M_QU_restart.2.1 12 = .ok (.iconst 1, 1) := by decide +kernel
theorem d_QU_restart_13 : decode M_QU_restart.2.1 13 = .ok (.putfield 41, 3) := by decide +kernel
theorem d_QU_restart_16 : decode M_QU_restart.2.1 16 = .ok (.return_, 1) := by decide +kernel
theorem k_QU_restart : x_kV M_QU_restart "QuestionReader$Question" 0 := ⟨⟨by decide, Or.inl ⟨w_445, rfl⟩⟩, w_443, w_444, ⟨by decide, by decide⟩, by decide +kernel⟩
def M_QG_readQuestion : x_M := (⟨"QuestionReader$QuestionGrammar", "readQuestion", "()Z"⟩, prog_11_method_2_code, 3, some (.boolean), [])
theorem d_QG_readQuestion_0 : decode M_QG_readQuestion.2.1 0 = .ok (.aload_n 0, 1) := by decide +kernel
theorem d_QG_readQuestion_1 : decode M_QG_readQuestion.2.1 1 = .ok (.getfield 25, 3) := by decide +kernel
theorem d_QG_readQuestion_4 : decode M_QG_readQuestion.2.1 4 = .ok (.getfield 36, 3) := by decide +kernel
theorem d_QG_readQuestion_7 : decode M_QG_readQuestion.2.1 7 = .ok (.ifCond .ne 13, 3) := by decide +kernel
theorem d_QG_readQuestion_10 : decode M_QG_readQuestion.2.1 10 = .ok (.aload_n 0, 1) := by decide +kernel
theorem d_QG_readQuestion_11 : decode M_QG_readQuestion.2.1 11 = .ok (.getfield 21, 3) := by decide +kernel
theorem d_QG_readQuestion_14 : decode M_QG_readQuestion.2.1 14 = .ok (.bipush 8, 2) := by decide +kernel
theorem d_QG_readQuestion_16 : decode M_QG_readQuestion.2.1 16 = .ok (.invokevirtual 42, 3) := by decide +kernel
theorem d_QG_readQuestion_19 : decode M_QG_readQuestion.2.1 19 = .ok (.ireturn, 1) := by decide +kernel
theorem d_QG_readQuestion_20 : decode M_QG_readQuestion.2.1 20 = .ok (.aload_n 0, 1) := by decide +kernel
theorem d_QG_readQuestion_21 : decode M_QG_readQuestion.2.1 21 = .ok (.getfield 18, 3) := by decide +kernel
theorem d_QG_readQuestion_24 : decode M_QG_readQuestion.2.1 24 = .ok (.invokevirtual 46, 3) := by decide +kernel
theorem d_QG_readQuestion_27 : decode M_QG_readQuestion.2.1 27 = .ok (.aload_n 0, 1) := by decide +kernel
theorem d_QG_readQuestion_28 : decode M_QG_readQuestion.2.1 28 = .ok (.invokevirtual 49, 3) := by decide +kernel
theorem d_QG_readQuestion_31 : decode M_QG_readQuestion.2.1 31 = .ok (.ifCond .ne 5, 3) := by decide +kernel
theorem d_QG_readQuestion_34 : decode M_QG_readQuestion.2.1 34 = .ok (.iconst 0, 1) := by decide +kernel
theorem d_QG_readQuestion_35 : decode M_QG_readQuestion.2.1 35 = .ok (.ireturn, 1) := by decide +kernel
theorem d_QG_readQuestion_36 : decode M_QG_readQuestion.2.1 36 = .ok (.aload_n 0, 1) := by decide +kernel
theorem d_QG_readQuestion_37 : decode M_QG_readQuestion.2.1 37 = .ok (.getfield 21, 3) := by decide +kernel
theorem d_QG_readQuestion_40 : decode M_QG_readQuestion.2.1 40 = .ok (.getfield 53, 3) := by decide +kernel
theorem d_QG_readQuestion_43 : decode M_QG_readQuestion.2.1 43 = .ok (.getstatic 57, 3) := by decide +kernel
theorem d_QG_readQuestion_46 : decode M_QG_readQuestion.2.1 46 = .ok (.if_acmp .ne 12, 3) := by decide +kernel
theorem d_QG_readQuestion_49 : decode M_QG_readQuestion.2.1 49 = .ok (.aload_n 0, 1) := by decide +kernel
theorem d_QG_readQuestion_50 : decode M_QG_readQuestion.2.1 50 = .ok (.invokevirtual 62, 3) := by decide +kernel
theorem d_QG_readQuestion_53 : decode M_QG_readQuestion.2.1 53 = .ok (.ifCond .ne 5, 3) := by decide +kernel
theorem d_QG_readQuestion_56 : decode M_QG_readQuestion.2.1 56 = .ok (.iconst 0, 1) := by decide +kernel
theorem d_QG_readQuestion_57 : decode M_QG_readQuestion.2.1 57 = .ok (.ireturn, 1) := by decide +kernel
theorem d_QG_readQuestion_58 : decode M_QG_readQuestion.2.1 58 = .ok (.aload_n 0, 1) := by decide +kernel
theorem d_QG_readQuestion_59 : decode M_QG_readQuestion.2.1 59 = .ok (.getfield 21, 3) := by decide +kernel
theorem d_QG_readQuestion_62 : decode M_QG_readQuestion.2.1 62 = .ok (.getfield 53, 3) := by decide +kernel
theorem d_QG_readQuestion_65 : decode M_QG_readQuestion.2.1 65 = .ok (.getstatic 65, 3) := by decide +kernel
theorem d_QG_readQuestion_68 : decode M_QG_readQuestion.2.1 68 = .ok (.if_acmp .ne 12, 3) := by decide +kernel
theorem d_QG_readQuestion_71 : decode M_QG_readQuestion.2.1 71 = .ok (.aload_n 0, 1) := by decide +kernel
theorem d_QG_readQuestion_72 : decode M_QG_readQuestion.2.1 72 = .ok (.invokevirtual 68, 3) := by decide +kernel
theorem d_QG_readQuestion_75 : decode M_QG_readQuestion.2.1 75 = .ok (.ifCond .ne 5, 3) := by decide +kernel
theorem d_QG_readQuestion_78 : decode M_QG_readQuestion.2.1 78 = .ok (.iconst 0, 1) := by decide +kernel
theorem d_QG_readQuestion_79 : decode M_QG_readQuestion.2.1 79 = .ok (.ireturn, 1) := by decide +kernel
theorem d_QG_readQuestion_80 : decode M_QG_readQuestion.2.1 80 = .ok (.aload_n 0, 1) := by decide +kernel
theorem d_QG_readQuestion_81 : decode M_QG_readQuestion.2.1 81 = .ok (.getfield 21, 3) := by decide +kernel
theorem d_QG_readQuestion_84 : decode M_QG_readQuestion.2.1 84 = .ok (.getstatic 71, 3) := by decide +kernel
theorem d_QG_readQuestion_87 : decode M_QG_readQuestion.2.1 87 = .ok (.invokevirtual 74, 3) := by decide +kernel
theorem d_QG_readQuestion_90 : decode M_QG_readQuestion.2.1 90 = .ok (.ifCond .ne 5, 3) := by decide +kernel
theorem d_QG_readQuestion_93 : decode M_QG_readQuestion.2.1 93 = .ok (.iconst 0, 1) := by decide +kernel
theorem d_QG_readQuestion_94 : decode M_QG_readQuestion.2.1 94 = .ok (.ireturn, 1) := by decide +kernel
theorem d_QG_readQuestion_95 : decode M_QG_readQuestion.2.1 95 = .ok (.aload_n 0, 1) := by decide +kernel
theorem d_QG_readQuestion_96 : decode M_QG_readQuestion.2.1 96 = .ok (.getfield 18, 3) := by decide +kernel
theorem d_QG_readQuestion_99 : decode M_QG_readQuestion.2.1 99 = .ok (.invokevirtual 78, 3) := by decide +kernel
theorem d_QG_readQuestion_102 : decode M_QG_readQuestion.2.1 102 = .ok (.istore_n 1, 1) := by decide +kernel
theorem d_QG_readQuestion_103 : decode M_QG_readQuestion.2.1 103 = .ok (.iload_n 1, 1) := by decide +kernel
theorem d_QG_readQuestion_104 : decode M_QG_readQuestion.2.1 104 = .ok (.iconst (-1), 1) := by decide +kernel
theorem d_QG_readQuestion_105 : decode M_QG_readQuestion.2.1 105 = .ok (.if_icmp .eq 14, 3) := by decide +kernel
theorem d_QG_readQuestion_108 : decode M_QG_readQuestion.2.1 108 = .ok (.aload_n 0, 1) := by decide +kernel
theorem d_QG_readQuestion_109 : decode M_QG_readQuestion.2.1 109 = .ok (.getfield 21, 3) := by decide +kernel
theorem d_QG_readQuestion_112 : decode M_QG_readQuestion.2.1 112 = .ok (.bipush 11, 2) := by decide +kernel
theorem d_QG_readQuestion_114 : decode M_QG_readQuestion.2.1 114 = .ok (.iload_n 1, 1) := by decide +kernel
theorem d_QG_readQuestion_115 : decode M_QG_readQuestion.2.1 115 = .ok (.invokevirtual 82, 3) := by decide +kernel
theorem d_QG_readQuestion_118 : decode M_QG_readQuestion.2.1 118 = .ok (.ireturn, 1) := by decide +kernel
theorem d_QG_readQuestion_119 : decode M_QG_readQuestion.2.1 119 = .ok (.aload_n 0, 1) := by decide +kernel
theorem d_QG_readQuestion_120 : decode M_QG_readQuestion.2.1 120 = .ok (.getfield 12, 3) := by decide +kernel
theorem d_QG_readQuestion_123 : decode M_QG_readQuestion.2.1 123 = .ok (.astore_n 2, 1) := by decide +kernel
theorem d_QG_readQuestion_124 : decode M_QG_readQuestion.2.1 124 = .ok (.aload_n 0, 1) := by decide +kernel
theorem d_QG_readQuestion_125 : decode M_QG_readQuestion.2.1 125 = .ok (.aload_n 0, 1) := by decide +kernel
theorem d_QG_readQuestion_126 : decode M_QG_readQuestion.2.1 126 = .ok (.getfield 18, 3) := by decide +kernel
theorem d_QG_readQuestion_129 : decode M_QG_readQuestion.2.1 129 = .ok (.putfield 12, 3) := by decide +kernel
theorem d_QG_readQuestion_132 : decode M_QG_readQuestion.2.1 132 = .ok (.aload_n 0, 1) := by decide +kernel
theorem d_QG_readQuestion_133 : decode M_QG_readQuestion.2.1 133 = .ok (.aload_n 2, 1) := by decide +kernel
theorem d_QG_readQuestion_134 : decode M_QG_readQuestion.2.1 134 = .ok (.putfield 18, 3) := by decide +kernel
theorem d_QG_readQuestion_137 : decode M_QG_readQuestion.2.1 137 = .ok (.iconst 1, 1) := by decide +kernel
theorem d_QG_readQuestion_138 : decode M_QG_readQuestion.2.1 138 = .ok (.ireturn, 1) := by decide +kernel
theorem k_QG_readQuestion : x_kV M_QG_readQuestion "QuestionReader$QuestionGrammar" 0 := ⟨⟨by decide, Or.inl ⟨w_433, rfl⟩⟩, w_431, w_432, ⟨by decide, by decide⟩, by decide +kernel⟩
def M_QR_run : x_M := (⟨"QuestionReader", "run", "()I"⟩, prog_1_method_4_code, 4, some (.int), [])
theorem d_QR_run_0 : decode M_QR_run.2.1 0 = .ok (.aload_n 0, 1) := by decide +kernel
theorem d_QR_run_1 : decode M_QR_run.2.1 1 = .ok (.getfield 21, 3) := by decide +kernel
theorem d_QR_run_4 : decode M_QR_run.2.1 4 = .ok (.invokevirtual 68, 3) := by decide +kernel
theorem d_QR_run_7 : decode M_QR_run.2.1 7 = .ok (.aload_n 0, 1) := by decide +kernel
theorem d_QR_run_8 : decode M_QR_run.2.1 8 = .ok (.getfield 44, 3) := by decide +kernel
theorem d_QR_run_11 : decode M_QR_run.2.1 11 = .ok (.getfield 71, 3) := by decide +kernel
theorem d_QR_run_14 : decode M_QR_run.2.1 14 = .ok (.invokevirtual 75, 3) := by decide +kernel
theorem d_QR_run_17 : decode M_QR_run.2.1 17 = .ok (.iconst 0, 1) := by decide +kernel
theorem d_QR_run_18 : decode M_QR_run.2.1 18 = .ok (.istore_n 1, 1) := by decide +kernel
theorem d_QR_run_19 : decode M_QR_run.2.1 19 = .ok (.iconst 0, 1) := by decide +kernel
theorem d_QR_run_20 : decode M_QR_run.2.1 20 = .ok (.istore_n 2, 1) := by decide +kernel
theorem d_QR_run_21 : decode M_QR_run.2.1 21 = .ok (.iload_n 2, 1) := by decide +kernel
theorem d_QR_run_22 : decode M_QR_run.2.1 22 = .ok (.aload_n 0, 1) := by decide +kernel
theorem d_QR_run_23 : decode M_QR_run.2.1 23 = .ok (.getfield 10, 3) := by decide +kernel
theorem d_QR_run_26 : decode M_QR_run.2.1 26 = .ok (.getfield 48, 3) := by decide +kernel
theorem d_QR_run_29 : decode M_QR_run.2.1 29 = .ok (.if_icmp .gt 78, 3) := by decide +kernel
theorem d_QR_run_32 : decode M_QR_run.2.1 32 = .ok (.aload_n 0, 1) := by decide +kernel
theorem d_QR_run_33 : decode M_QR_run.2.1 33 = .ok (.getfield 21, 3) := by decide +kernel
theorem d_QR_run_36 : decode M_QR_run.2.1 36 = .ok (.invokevirtual 80, 3) := by decide +kernel
theorem d_QR_run_39 : decode M_QR_run.2.1 39 = .ok (.aload_n 0, 1) := by decide +kernel
theorem d_QR_run_40 : decode M_QR_run.2.1 40 = .ok (.getfield 21, 3) := by decide +kernel
theorem d_QR_run_43 : decode M_QR_run.2.1 43 = .ok (.getfield 83, 3) := by decide +kernel
theorem d_QR_run_46 : decode M_QR_run.2.1 46 = .ok (.getstatic 87, 3) := by decide +kernel
theorem d_QR_run_49 : decode M_QR_run.2.1 49 = .ok (.if_acmp .ne 13, 3) := by decide +kernel
theorem d_QR_run_52 : decode M_QR_run.2.1 52 = .ok (.aload_n 0, 1) := by decide +kernel
theorem d_QR_run_53 : decode M_QR_run.2.1 53 = .ok (.getfield 44, 3) := by decide +kernel
theorem d_QR_run_56 : decode M_QR_run.2.1 56 = .ok (.invokevirtual 92, 3) := by decide +kernel
theorem d_QR_run_59 : decode M_QR_run.2.1 59 = .ok (.goto 31, 3) := by decide +kernel
theorem d_QR_run_62 : decode M_QR_run.2.1 62 = .ok (.aload_n 0, 1) := by decide +kernel
theorem d_QR_run_63 : decode M_QR_run.2.1 63 = .ok (.getfield 21, 3) := by decide +kernel
theorem d_QR_run_66 : decode M_QR_run.2.1 66 = .ok (.getfield 83, 3) := by decide +kernel
theorem d_QR_run_69 : decode M_QR_run.2.1 69 = .ok (.getstatic 96, 3) := by decide +kernel
theorem d_QR_run_72 : decode M_QR_run.2.1 72 = .ok (.if_acmp .eq 17, 3) := by decide +kernel
theorem d_QR_run_75 : decode M_QR_run.2.1 75 = .ok (.aload_n 0, 1) := by decide +kernel
theorem d_QR_run_76 : decode M_QR_run.2.1 76 = .ok (.getfield 37, 3) := by decide +kernel
theorem d_QR_run_79 : decode M_QR_run.2.1 79 = .ok (.invokevirtual 99, 3) := by decide +kernel
theorem d_QR_run_82 : decode M_QR_run.2.1 82 = .ok (.ifCond .eq 7, 3) := by decide +kernel
theorem d_QR_run_85 : decode M_QR_run.2.1 85 = .ok (.iconst 1, 1) := by decide +kernel
theorem d_QR_run_86 : decode M_QR_run.2.1 86 = .ok (.goto 4, 3) := by decide +kernel
theorem d_QR_run_89 : decode M_QR_run.2.1 89 = .ok (.iconst 0, 1) := by decide +kernel
theorem d_QR_run_90 : decode M_QR_run.2.1 90 = .ok (.istore_n 3, 1) := by decide +kernel
theorem d_QR_run_91 : decode M_QR_run.2.1 91 = .ok (.iload_n 3, 1) := by decide +kernel
theorem d_QR_run_92 : decode M_QR_run.2.1 92 = .ok (.ifCond .ne 6, 3) := by decide +kernel
theorem d_QR_run_95 : decode M_QR_run.2.1 95 = .ok (.goto 12, 3) := by decide +kernel
theorem d_QR_run_98 : decode M_QR_run.2.1 98 = .ok (.iinc 1 1, 3) := by decide +kernel
theorem d_QR_run_101 : decode M_QR_run.2.1 101 = .ok (.iinc 2 1, 3) := by decide +kernel
theorem d_QR_run_104 : decode M_QR_run.2.1 104 = .ok (.goto (-83), 3) := by decide +kernel
theorem d_QR_run_107 : decode M_QR_run.2.1 107 = .ok (.aload_n 0, 1) := by decide +kernel
theorem d_QR_run_108 : decode M_QR_run.2.1 108 = .ok (.getfield 10, 3) := by decide +kernel
theorem d_QR_run_111 : decode M_QR_run.2.1 111 = .ok (.iconst 0, 1) := by decide +kernel
theorem d_QR_run_112 : decode M_QR_run.2.1 112 = .ok (.putfield 48, 3) := by decide +kernel
theorem d_QR_run_115 : decode M_QR_run.2.1 115 = .ok (.iload_n 1, 1) := by decide +kernel
theorem d_QR_run_116 : decode M_QR_run.2.1 116 = .ok (.ireturn, 1) := by decide +kernel
theorem k_QR_run : x_kV M_QR_run "QuestionReader" 0 := ⟨⟨by decide, Or.inl ⟨w_369, rfl⟩⟩, w_367, w_368, ⟨by decide, by decide⟩, by decide +kernel⟩
def M_DM_lowerThan : x_M := (⟨"QuestionReader$Dimension", "lowerThan", "(II)I"⟩, prog_6_method_7_code, 7, some (.int), [])
theorem d_DM_lowerThan_0 : decode M_DM_lowerThan.2.1 0 = .ok (.iconst 0, 1) := by decide +kernel
theorem d_DM_lowerThan_1 : decode M_DM_lowerThan.2.1 1 = .ok (.istore_n 3, 1) := by decide +kernel
theorem d_DM_lowerThan_2 : decode M_DM_lowerThan.2.1 2 = .ok (.aload_n 0, 1) := by decide +kernel
theorem d_DM_lowerThan_3 : decode M_DM_lowerThan.2.1 3 = .ok (.getfield 23, 3) := by decide +kernel
theorem d_DM_lowerThan_6 : decode M_DM_lowerThan.2.1 6 = .ok (.iload_n 1, 1) := by decide +kernel
theorem d_DM_lowerThan_7 : decode M_DM_lowerThan.2.1 7 = .ok (.iaload, 1) := by decide +kernel
theorem d_DM_lowerThan_8 : decode M_DM_lowerThan.2.1 8 = .ok (.istore 4, 2) := by decide +kernel
theorem d_DM_lowerThan_10 : decode M_DM_lowerThan.2.1 10 = .ok (.iconst 0, 1) := by decide +kernel
theorem d_DM_lowerThan_11 : decode M_DM_lowerThan.2.1 11 = .ok (.istore 5, 2) := by decide +kernel
theorem d_DM_lowerThan_13 : decode M_DM_lowerThan.2.1 13 = .ok (.iload 5, 2) := by decide +kernel
theorem d_DM_lowerThan_15 : decode M_DM_lowerThan.2.1 15 = .ok (.bipush 32, 2) := by decide +kernel
theorem d_DM_lowerThan_17 : decode M_DM_lowerThan.2.1 17 = .ok (.if_icmp .ge 48, 3) := by decide +kernel
theorem d_DM_lowerThan_20 : decode M_DM_lowerThan.2.1 20 = .ok (.iload_n 3, 1) := by decide +kernel
theorem d_DM_lowerThan_21 : decode M_DM_lowerThan.2.1 21 = .ok (.iload 4, 2) := by decide +kernel
theorem d_DM_lowerThan_23 : decode M_DM_lowerThan.2.1 23 = .ok (.if_icmp .ge 42, 3) := by decide +kernel
theorem d_DM_lowerThan_26 : decode M_DM_lowerThan.2.1 26 = .ok (.iload_n 3, 1) := by decide +kernel
theorem d_DM_lowerThan_27 : decode M_DM_lowerThan.2.1 27 = .ok (.iload 4, 2) := by decide +kernel
theorem d_DM_lowerThan_29 : decode M_DM_lowerThan.2.1 29 = .ok (.iadd, 1) := by decide +kernel
theorem d_DM_lowerThan_30 : decode M_DM_lowerThan.2.1 30 = .ok (.iconst 1, 1) := by decide +kernel
theorem d_DM_lowerThan_31 : decode M_DM_lowerThan.2.1 31 = .ok (.iushr, 1) := by decide +kernel
theorem d_DM_lowerThan_32 : decode M_DM_lowerThan.2.1 32 = .ok (.istore 6, 2) := by decide +kernel
theorem d_DM_lowerThan_34 : decode M_DM_lowerThan.2.1 34 = .ok (.aload_n 0, 1) := by decide +kernel
theorem d_DM_lowerThan_35 : decode M_DM_lowerThan.2.1 35 = .ok (.getfield 20, 3) := by decide +kernel
theorem d_DM_lowerThan_38 : decode M_DM_lowerThan.2.1 38 = .ok (.iload_n 1, 1) := by decide +kernel
theorem d_DM_lowerThan_39 : decode M_DM_lowerThan.2.1 39 = .ok (.aaload, 1) := by decide +kernel
theorem d_DM_lowerThan_40 : decode M_DM_lowerThan.2.1 40 = .ok (.iload 6, 2) := by decide +kernel
theorem d_DM_lowerThan_42 : decode M_DM_lowerThan.2.1 42 = .ok (.iaload, 1) := by decide +kernel
theorem d_DM_lowerThan_43 : decode M_DM_lowerThan.2.1 43 = .ok (.iload_n 2, 1) := by decide +kernel
theorem d_DM_lowerThan_44 : decode M_DM_lowerThan.2.1 44 = .ok (.if_icmp .ge 11, 3) := by decide +kernel
theorem d_DM_lowerThan_47 : decode M_DM_lowerThan.2.1 47 = .ok (.iload 6, 2) := by decide +kernel
theorem d_DM_lowerThan_49 : decode M_DM_lowerThan.2.1 49 = .ok (.iconst 1, 1) := by decide +kernel
theorem d_DM_lowerThan_50 : decode M_DM_lowerThan.2.1 50 = .ok (.iadd, 1) := by decide +kernel
theorem d_DM_lowerThan_51 : decode M_DM_lowerThan.2.1 51 = .ok (.istore_n 3, 1) := by decide +kernel
theorem d_DM_lowerThan_52 : decode M_DM_lowerThan.2.1 52 = .ok (.goto 7, 3) := by decide +kernel
theorem d_DM_lowerThan_55 : decode M_DM_lowerThan.2.1 55 = .ok (.iload 6, 2) := by decide +kernel
theorem d_DM_lowerThan_57 : decode M_DM_lowerThan.2.1 57 = .ok (.istore 4, 2) := by decide +kernel
theorem d_DM_lowerThan_59 : decode M_DM_lowerThan.2.1 59 = .ok (.iinc 5 1, 3) := by decide +kernel
theorem d_DM_lowerThan_62 : decode M_DM_lowerThan.2.1 62 = .ok (.goto (-49), 3) := by decide +kernel
theorem d_DM_lowerThan_65 : decode M_DM_lowerThan.2.1 65 = .ok (.iload_n 3, 1) := by decide +kernel
theorem d_DM_lowerThan_66 : decode M_DM_lowerThan.2.1 66 = .ok (.ireturn, 1) := by decide +kernel
theorem k_DM_lowerThan : x_kV M_DM_lowerThan "QuestionReader$Dimension" 2 := ⟨⟨by decide, Or.inl ⟨w_792, rfl⟩⟩, w_790, w_791, ⟨by decide, by decide⟩, by decide +kernel⟩
def M_DM_insert : x_M := (⟨"QuestionReader$Dimension", "insert", "(II)V"⟩, prog_6_method_11_code, 7, none, [])
theorem d_DM_insert_0 : decode M_DM_insert.2.1 0 = .ok (.aload_n 0, 1) := by decide +kernel
theorem d_DM_insert_1 : decode M_DM_insert.2.1 1 = .ok (.getfield 20, 3) := by decide +kernel
theorem d_DM_insert_4 : decode M_DM_insert.2.1 4 = .ok (.iload_n 1, 1) := by decide +kernel
theorem d_DM_insert_5 : decode M_DM_insert.2.1 5 = .ok (.aaload, 1) := by decide +kernel
theorem d_DM_insert_6 : decode M_DM_insert.2.1 6 = .ok (.astore_n 3, 1) := by decide +kernel
theorem d_DM_insert_7 : decode M_DM_insert.2.1 7 = .ok (.aload_n 0, 1) := by decide +kernel
theorem d_DM_insert_8 : decode M_DM_insert.2.1 8 = .ok (.getfield 23, 3) := by decide +kernel
theorem d_DM_insert_11 : decode M_DM_insert.2.1 11 = .ok (.iload_n 1, 1) := by decide +kernel
theorem d_DM_insert_12 : decode M_DM_insert.2.1 12 = .ok (.iaload, 1) := by decide +kernel
theorem d_DM_insert_13 : decode M_DM_insert.2.1 13 = .ok (.istore 4, 2) := by decide +kernel
theorem d_DM_insert_15 : decode M_DM_insert.2.1 15 = .ok (.aload_n 0, 1) := by decide +kernel
theorem d_DM_insert_16 : decode M_DM_insert.2.1 16 = .ok (.iload_n 1, 1) := by decide +kernel
theorem d_DM_insert_17 : decode M_DM_insert.2.1 17 = .ok (.iload_n 2, 1) := by decide +kernel
theorem d_DM_insert_18 : decode M_DM_insert.2.1 18 = .ok (.invokevirtual 45, 3) := by decide +kernel
theorem d_DM_insert_21 : decode M_DM_insert.2.1 21 = .ok (.istore 5, 2) := by decide +kernel
theorem d_DM_insert_23 : decode M_DM_insert.2.1 23 = .ok (.iload 5, 2) := by decide +kernel
theorem d_DM_insert_25 : decode M_DM_insert.2.1 25 = .ok (.iload 4, 2) := by decide +kernel
theorem d_DM_insert_27 : decode M_DM_insert.2.1 27 = .ok (.if_icmp .ge 15, 3) := by decide +kernel
theorem d_DM_insert_30 : decode M_DM_insert.2.1 30 = .ok (.aload_n 3, 1) := by decide +kernel
theorem d_DM_insert_31 : decode M_DM_insert.2.1 31 = .ok (.iload 5, 2) := by decide +kernel
theorem d_DM_insert_33 : decode M_DM_insert.2.1 33 = .ok (.iaload, 1) := by decide +kernel
theorem d_DM_insert_34 : decode M_DM_insert.2.1 34 = .ok (.iload_n 2, 1) := by decide +kernel
theorem d_DM_insert_35 : decode M_DM_insert.2.1 35 = .ok (.if_icmp .ne 7, 3) := by decide +kernel
theorem d_DM_insert_38 : decode M_DM_insert.2.1 38 = .ok (.iconst 1, 1) := by decide +kernel
theorem d_DM_insert_39 : decode M_DM_insert.2.1 39 = .ok (.goto 4, 3) := by decide +kernel
theorem d_DM_insert_42 : decode M_DM_insert.2.1 42 = .ok (.iconst 0, 1) := by decide +kernel
theorem d_DM_insert_43 : decode M_DM_insert.2.1 43 = .ok (.istore 6, 2) := by decide +kernel
theorem d_DM_insert_45 : decode M_DM_insert.2.1 45 = .ok (.iload 6, 2) := by decide +kernel
theorem d_DM_insert_47 : decode M_DM_insert.2.1 47 = .ok (.ifCond .ne 42, 3) := by decide +kernel
theorem d_DM_insert_50 : decode M_DM_insert.2.1 50 = .ok (.iload 4, 2) := by decide +kernel
theorem d_DM_insert_52 : decode M_DM_insert.2.1 52 = .ok (.sipush 1000, 3) := by decide +kernel
theorem d_DM_insert_55 : decode M_DM_insert.2.1 55 = .ok (.if_icmp .ge 34, 3) := by decide +kernel
theorem d_DM_insert_58 : decode M_DM_insert.2.1 58 = .ok (.aload_n 3, 1) := by decide +kernel
theorem d_DM_insert_59 : decode M_DM_insert.2.1 59 = .ok (.iload 5, 2) := by decide +kernel
theorem d_DM_insert_61 : decode M_DM_insert.2.1 61 = .ok (.aload_n 3, 1) := by decide +kernel
theorem d_DM_insert_62 : decode M_DM_insert.2.1 62 = .ok (.iload 5, 2) := by decide +kernel
theorem d_DM_insert_64 : decode M_DM_insert.2.1 64 = .ok (.iconst 1, 1) := by decide +kernel
theorem d_DM_insert_65 : decode M_DM_insert.2.1 65 = .ok (.iadd, 1) := by decide +kernel
theorem d_DM_insert_66 : decode M_DM_insert.2.1 66 = .ok (.iload 4, 2) := by decide +kernel
theorem d_DM_insert_68 : decode M_DM_insert.2.1 68 = .ok (.iload 5, 2) := by decide +kernel
theorem d_DM_insert_70 : decode M_DM_insert.2.1 70 = .ok (.isub, 1) := by decide +kernel
theorem d_DM_insert_71 : decode M_DM_insert.2.1 71 = .ok (.invokestatic 51, 3) := by decide +kernel
theorem d_DM_insert_74 : decode M_DM_insert.2.1 74 = .ok (.aload_n 3, 1) := by decide +kernel
theorem d_DM_insert_75 : decode M_DM_insert.2.1 75 = .ok (.iload 5, 2) := by decide +kernel
theorem d_DM_insert_77 : decode M_DM_insert.2.1 77 = .ok (.iload_n 2, 1) := by decide +kernel
theorem d_DM_insert_78 : decode M_DM_insert.2.1 78 = .ok (.iastore, 1) := by decide +kernel
theorem d_DM_insert_79 : decode M_DM_insert.2.1 79 = .ok (.aload_n 0, 1) := by decide +kernel
theorem d_DM_insert_80 : decode M_DM_insert.2.1 80 = .ok (.getfield 23, 3) := by decide +kernel
theorem d_DM_insert_83 : decode M_DM_insert.2.1 83 = .ok (.iload_n 1, 1) := by decide +kernel
theorem d_DM_insert_84 : decode M_DM_insert.2.1 84 = .ok (.iload 4, 2) := by decide +kernel
theorem d_DM_insert_86 : decode M_DM_insert.2.1 86 = .ok (.iconst 1, 1) := by decide +kernel
theorem d_DM_insert_87 : decode M_DM_insert.2.1 87 = .ok (.iadd, 1) := by decide +kernel
theorem d_DM_insert_88 : decode M_DM_insert.2.1 88 = .ok (.iastore, 1) := by decide +kernel
theorem d_DM_insert_89 : decode M_DM_insert.2.1 89 = .ok (.return_, 1) := by decide +kernel
theorem k_DM_insert : x_kV M_DM_insert "QuestionReader$Dimension" 2 := ⟨⟨by decide, Or.inl ⟨w_788, rfl⟩⟩, w_787, ws_32, ⟨by decide, by decide⟩, by decide +kernel⟩
def M_DM_arrange : x_M := (⟨"QuestionReader$Dimension", "arrange", "()V"⟩, prog_6_method_4_code, 3, none, [])
theorem d_DM_arrange_0 : decode M_DM_arrange.2.1 0 = .ok (.iconst 0, 1) := by decide +kernel
theorem d_DM_arrange_1 : decode M_DM_arrange.2.1 1 = .ok (.istore_n 1, 1) := by decide +kernel
theorem d_DM_arrange_2 : decode M_DM_arrange.2.1 2 = .ok (.iload_n 1, 1) := by decide +kernel
theorem d_DM_arrange_3 : decode M_DM_arrange.2.1 3 = .ok (.aload_n 0, 1) := by decide +kernel
theorem d_DM_arrange_4 : decode M_DM_arrange.2.1 4 = .ok (.getfield 26, 3) := by decide +kernel
theorem d_DM_arrange_7 : decode M_DM_arrange.2.1 7 = .ok (.if_icmp .ge 38, 3) := by decide +kernel
theorem d_DM_arrange_10 : decode M_DM_arrange.2.1 10 = .ok (.iconst 0, 1) := by decide +kernel
theorem d_DM_arrange_11 : decode M_DM_arrange.2.1 11 = .ok (.istore_n 2, 1) := by decide +kernel
theorem d_DM_arrange_12 : decode M_DM_arrange.2.1 12 = .ok (.iload_n 2, 1) := by decide +kernel
theorem d_DM_arrange_13 : decode M_DM_arrange.2.1 13 = .ok (.aload_n 0, 1) := by decide +kernel
theorem d_DM_arrange_14 : decode M_DM_arrange.2.1 14 = .ok (.getfield 38, 3) := by decide +kernel
theorem d_DM_arrange_17 : decode M_DM_arrange.2.1 17 = .ok (.if_icmp .ge 22, 3) := by decide +kernel
theorem d_DM_arrange_20 : decode M_DM_arrange.2.1 20 = .ok (.aload_n 0, 1) := by decide +kernel
theorem d_DM_arrange_21 : decode M_DM_arrange.2.1 21 = .ok (.iload_n 1, 1) := by decide +kernel
theorem d_DM_arrange_22 : decode M_DM_arrange.2.1 22 = .ok (.aload_n 0, 1) := by decide +kernel
theorem d_DM_arrange_23 : decode M_DM_arrange.2.1 23 = .ok (.getfield 13, 3) := by decide +kernel
theorem d_DM_arrange_26 : decode M_DM_arrange.2.1 26 = .ok (.iload_n 1, 1) := by decide +kernel
theorem d_DM_arrange_27 : decode M_DM_arrange.2.1 27 = .ok (.aaload, 1) := by decide +kernel
theorem d_DM_arrange_28 : decode M_DM_arrange.2.1 28 = .ok (.iload_n 2, 1) := by decide +kernel
theorem d_DM_arrange_29 : decode M_DM_arrange.2.1 29 = .ok (.iaload, 1) := by decide +kernel
theorem d_DM_arrange_30 : decode M_DM_arrange.2.1 30 = .ok (.invokevirtual 41, 3) := by decide +kernel
theorem d_DM_arrange_33 : decode M_DM_arrange.2.1 33 = .ok (.iinc 2 1, 3) := by decide +kernel
theorem d_DM_arrange_36 : decode M_DM_arrange.2.1 36 = .ok (.goto (-24), 3) := by decide +kernel
theorem d_DM_arrange_39 : decode M_DM_arrange.2.1 39 = .ok (.iinc 1 1, 3) := by decide +kernel
theorem d_DM_arrange_42 : decode M_DM_arrange.2.1 42 = .ok (.goto (-40), 3) := by decide +kernel
theorem d_DM_arrange_45 : decode M_DM_arrange.2.1 45 = .ok (.iconst 0, 1) := by decide +kernel
theorem d_DM_arrange_46 : decode M_DM_arrange.2.1 46 = .ok (.istore_n 1, 1) := by decide +kernel
theorem d_DM_arrange_47 : decode M_DM_arrange.2.1 47 = .ok (.iload_n 1, 1) := by decide +kernel
theorem d_DM_arrange_48 : decode M_DM_arrange.2.1 48 = .ok (.aload_n 0, 1) := by decide +kernel
theorem d_DM_arrange_49 : decode M_DM_arrange.2.1 49 = .ok (.getfield 38, 3) := by decide +kernel
theorem d_DM_arrange_52 : decode M_DM_arrange.2.1 52 = .ok (.if_icmp .ge 28, 3) := by decide +kernel
theorem d_DM_arrange_55 : decode M_DM_arrange.2.1 55 = .ok (.aload_n 0, 1) := by decide +kernel
theorem d_DM_arrange_56 : decode M_DM_arrange.2.1 56 = .ok (.getfield 16, 3) := by decide +kernel
theorem d_DM_arrange_59 : decode M_DM_arrange.2.1 59 = .ok (.aload_n 0, 1) := by decide +kernel
theorem d_DM_arrange_60 : decode M_DM_arrange.2.1 60 = .ok (.iconst 0, 1) := by decide +kernel
theorem d_DM_arrange_61 : decode M_DM_arrange.2.1 61 = .ok (.aload_n 0, 1) := by decide +kernel
theorem d_DM_arrange_62 : decode M_DM_arrange.2.1 62 = .ok (.getfield 13, 3) := by decide +kernel
theorem d_DM_arrange_65 : decode M_DM_arrange.2.1 65 = .ok (.iconst 0, 1) := by decide +kernel
theorem d_DM_arrange_66 : decode M_DM_arrange.2.1 66 = .ok (.aaload, 1) := by decide +kernel
theorem d_DM_arrange_67 : decode M_DM_arrange.2.1 67 = .ok (.iload_n 1, 1) := by decide +kernel
theorem d_DM_arrange_68 : decode M_DM_arrange.2.1 68 = .ok (.iaload, 1) := by decide +kernel
theorem d_DM_arrange_69 : decode M_DM_arrange.2.1 69 = .ok (.invokevirtual 45, 3) := by decide +kernel
theorem d_DM_arrange_72 : decode M_DM_arrange.2.1 72 = .ok (.iload_n 1, 1) := by decide +kernel
theorem d_DM_arrange_73 : decode M_DM_arrange.2.1 73 = .ok (.iastore, 1) := by decide +kernel
theorem d_DM_arrange_74 : decode M_DM_arrange.2.1 74 = .ok (.iinc 1 1, 3) := by decide +kernel
theorem d_DM_arrange_77 : decode M_DM_arrange.2.1 77 = .ok (.goto (-30), 3) := by decide +kernel
theorem d_DM_arrange_80 : decode M_DM_arrange.2.1 80 = .ok (.aload_n 0, 1) := by decide +kernel
theorem d_DM_arrange_81 : decode M_DM_arrange.2.1 81 = .ok (.iconst 0, 1) := by decide +kernel
theorem d_DM_arrange_82 : decode M_DM_arrange.2.1 82 = .ok (.putfield 48, 3) := by decide +kernel
theorem d_DM_arrange_85 : decode M_DM_arrange.2.1 85 = .ok (.return_, 1) := by decide +kernel
theorem k_DM_arrange : x_kV M_DM_arrange "QuestionReader$Dimension" 0 := ⟨⟨by decide, Or.inl ⟨w_784, rfl⟩⟩, w_782, w_783, ⟨by decide, by decide⟩, by decide +kernel⟩
def M_CT_becomeOpen : x_M := (⟨"QuestionReader$Catalog", "becomeOpen", "()Z"⟩, prog_2_method_7_code, 2, some (.boolean), [])
theorem d_CT_becomeOpen_0 : decode M_CT_becomeOpen.2.1 0 = .ok (.aload_n 0, 1) := by decide +kernel
theorem d_CT_becomeOpen_1 : decode M_CT_becomeOpen.2.1 1 = .ok (.getfield 57, 3) := by decide +kernel
theorem d_CT_becomeOpen_4 : decode M_CT_becomeOpen.2.1 4 = .ok (.ifCond .ne 17, 3) := by decide +kernel
theorem d_CT_becomeOpen_7 : decode M_CT_becomeOpen.2.1 7 = .ok (.aload_n 0, 1) := by decide +kernel
theorem d_CT_becomeOpen_8 : decode M_CT_becomeOpen.2.1 8 = .ok (.getfield 25, 3) := by decide +kernel
theorem d_CT_becomeOpen_11 : decode M_CT_becomeOpen.2.1 11 = .ok (.ifCond .eq 10, 3) := by decide +kernel
theorem d_CT_becomeOpen_14 : decode M_CT_becomeOpen.2.1 14 = .ok (.aload_n 0, 1) := by decide +kernel
theorem d_CT_becomeOpen_15 : decode M_CT_becomeOpen.2.1 15 = .ok (.getfield 50, 3) := by decide +kernel
theorem d_CT_becomeOpen_18 : decode M_CT_becomeOpen.2.1 18 = .ok (.ifCond .ne 5, 3) := by decide +kernel
theorem d_CT_becomeOpen_21 : decode M_CT_becomeOpen.2.1 21 = .ok (.iconst 0, 1) := by decide +kernel
theorem d_CT_becomeOpen_22 : decode M_CT_becomeOpen.2.1 22 = .ok (.ireturn, 1) := by decide +kernel
theorem d_CT_becomeOpen_23 : decode M_CT_becomeOpen.2.1 23 = .ok (.iconst 0, 1) := by decide +kernel
theorem d_CT_becomeOpen_24 : decode M_CT_becomeOpen.2.1 24 = .ok (.istore_n 1, 1) := by decide +kernel
theorem d_CT_becomeOpen_25 : decode M_CT_becomeOpen.2.1 25 = .ok (.iload_n 1, 1) := by decide +kernel
theorem d_CT_becomeOpen_26 : decode M_CT_becomeOpen.2.1 26 = .ok (.aload_n 0, 1) := by decide +kernel
theorem d_CT_becomeOpen_27 : decode M_CT_becomeOpen.2.1 27 = .ok (.getfield 25, 3) := by decide +kernel
theorem d_CT_becomeOpen_30 : decode M_CT_becomeOpen.2.1 30 = .ok (.if_icmp .ge 23, 3) := by decide +kernel
theorem d_CT_becomeOpen_33 : decode M_CT_becomeOpen.2.1 33 = .ok (.aload_n 0, 1) := by decide +kernel
theorem d_CT_becomeOpen_34 : decode M_CT_becomeOpen.2.1 34 = .ok (.getfield 20, 3) := by decide +kernel
theorem d_CT_becomeOpen_37 : decode M_CT_becomeOpen.2.1 37 = .ok (.iload_n 1, 1) := by decide +kernel
theorem d_CT_becomeOpen_38 : decode M_CT_becomeOpen.2.1 38 = .ok (.aaload, 1) := by decide +kernel
theorem d_CT_becomeOpen_39 : decode M_CT_becomeOpen.2.1 39 = .ok (.getfield 36, 3) := by decide +kernel
theorem d_CT_becomeOpen_42 : decode M_CT_becomeOpen.2.1 42 = .ok (.ifCond .ne 5, 3) := by decide +kernel
theorem d_CT_becomeOpen_45 : decode M_CT_becomeOpen.2.1 45 = .ok (.iconst 0, 1) := by decide +kernel
theorem d_CT_becomeOpen_46 : decode M_CT_becomeOpen.2.1 46 = .ok (.ireturn, 1) := by decide +kernel
theorem d_CT_becomeOpen_47 : decode M_CT_becomeOpen.2.1 47 = .ok (.iinc 1 1, 3) := by decide +kernel
theorem d_CT_becomeOpen_50 : decode M_CT_becomeOpen.2.1 50 = .ok (.goto (-25), 3) := by decide +kernel
theorem d_CT_becomeOpen_53 : decode M_CT_becomeOpen.2.1 53 = .ok (.iconst 0, 1) := by decide +kernel
theorem d_CT_becomeOpen_54 : decode M_CT_becomeOpen.2.1 54 = .ok (.istore_n 1, 1) := by decide +kernel
theorem d_CT_becomeOpen_55 : decode M_CT_becomeOpen.2.1 55 = .ok (.iload_n 1, 1) := by decide +kernel
theorem d_CT_becomeOpen_56 : decode M_CT_becomeOpen.2.1 56 = .ok (.aload_n 0, 1) := by decide +kernel
theorem d_CT_becomeOpen_57 : decode M_CT_becomeOpen.2.1 57 = .ok (.getfield 25, 3) := by decide +kernel
theorem d_CT_becomeOpen_60 : decode M_CT_becomeOpen.2.1 60 = .ok (.if_icmp .ge 18, 3) := by decide +kernel
theorem d_CT_becomeOpen_63 : decode M_CT_becomeOpen.2.1 63 = .ok (.aload_n 0, 1) := by decide +kernel
theorem d_CT_becomeOpen_64 : decode M_CT_becomeOpen.2.1 64 = .ok (.getfield 20, 3) := by decide +kernel
theorem d_CT_becomeOpen_67 : decode M_CT_becomeOpen.2.1 67 = .ok (.iload_n 1, 1) := by decide +kernel
theorem d_CT_becomeOpen_68 : decode M_CT_becomeOpen.2.1 68 = .ok (.aaload, 1) := by decide +kernel
theorem d_CT_becomeOpen_69 : decode M_CT_becomeOpen.2.1 69 = .ok (.invokevirtual 61, 3) := by decide +kernel
theorem d_CT_becomeOpen_72 : decode M_CT_becomeOpen.2.1 72 = .ok (.iinc 1 1, 3) := by decide +kernel
theorem d_CT_becomeOpen_75 : decode M_CT_becomeOpen.2.1 75 = .ok (.goto (-20), 3) := by decide +kernel
theorem d_CT_becomeOpen_78 : decode M_CT_becomeOpen.2.1 78 = .ok (.aload_n 0, 1) := by decide +kernel
theorem d_CT_becomeOpen_79 : decode M_CT_becomeOpen.2.1 79 = .ok (.iconst 1, 1) := by decide +kernel
theorem d_CT_becomeOpen_80 : decode M_CT_becomeOpen.2.1 80 = .ok (.putfield 57, 3) := by decide +kernel
theorem d_CT_becomeOpen_83 : decode M_CT_becomeOpen.2.1 83 = .ok (.iconst 1, 1) := by decide +kernel
theorem d_CT_becomeOpen_84 : decode M_CT_becomeOpen.2.1 84 = .ok (.ireturn, 1) := by decide +kernel
theorem k_CT_becomeOpen : x_kV M_CT_becomeOpen "QuestionReader$Catalog" 0 := ⟨⟨by decide, Or.inl ⟨w_780, rfl⟩⟩, w_778, w_779, ⟨by decide, by decide⟩, by decide +kernel⟩
def M_QR_open : x_M := (⟨"QuestionReader", "open", "()Z"⟩, prog_1_method_6_code, 1, some (.boolean), [])
theorem d_QR_open_0 : decode M_QR_open.2.1 0 = .ok (.aload_n 0, 1) := by decide +kernel
theorem d_QR_open_1 : decode M_QR_open.2.1 1 = .ok (.getfield 28, 3) := by decide +kernel
theorem d_QR_open_4 : decode M_QR_open.2.1 4 = .ok (.invokevirtual 108, 3) := by decide +kernel
theorem d_QR_open_7 : decode M_QR_open.2.1 7 = .ok (.ireturn, 1) := by decide +kernel
theorem k_QR_open : x_kV M_QR_open "QuestionReader" 0 := ⟨⟨by decide, Or.inl ⟨w_776, rfl⟩⟩, w_774, w_775, ⟨by decide, by decide⟩, by decide +kernel⟩
def M_TX_addFour : x_M := (⟨"QuestionReader$Text", "addFour", "(I)V"⟩, prog_12_method_2_code, 3, none, [])
theorem d_TX_addFour_0 : decode M_TX_addFour.2.1 0 = .ok (.bipush 24, 2) := by decide +kernel
theorem d_TX_addFour_2 : decode M_TX_addFour.2.1 2 = .ok (.istore_n 2, 1) := by decide +kernel
theorem d_TX_addFour_3 : decode M_TX_addFour.2.1 3 = .ok (.iload_n 2, 1) := by decide +kernel
theorem d_TX_addFour_4 : decode M_TX_addFour.2.1 4 = .ok (.ifCond .lt 41, 3) := by decide +kernel
theorem d_TX_addFour_7 : decode M_TX_addFour.2.1 7 = .ok (.aload_n 0, 1) := by decide +kernel
theorem d_TX_addFour_8 : decode M_TX_addFour.2.1 8 = .ok (.getfield 14, 3) := by decide +kernel
theorem d_TX_addFour_11 : decode M_TX_addFour.2.1 11 = .ok (.ldc 9, 2) := by decide +kernel
theorem d_TX_addFour_13 : decode M_TX_addFour.2.1 13 = .ok (.if_icmp .ge 32, 3) := by decide +kernel
theorem d_TX_addFour_16 : decode M_TX_addFour.2.1 16 = .ok (.aload_n 0, 1) := by decide +kernel
theorem d_TX_addFour_17 : decode M_TX_addFour.2.1 17 = .ok (.getfield 10, 3) := by decide +kernel
theorem d_TX_addFour_20 : decode M_TX_addFour.2.1 20 = .ok (.aload_n 0, 1) := by decide +kernel
theorem d_TX_addFour_21 : decode M_TX_addFour.2.1 21 = .ok (.getfield 14, 3) := by decide +kernel
theorem d_TX_addFour_24 : decode M_TX_addFour.2.1 24 = .ok (.iload_n 1, 1) := by decide +kernel
theorem d_TX_addFour_25 : decode M_TX_addFour.2.1 25 = .ok (.iload_n 2, 1) := by decide +kernel
theorem d_TX_addFour_26 : decode M_TX_addFour.2.1 26 = .ok (.iushr, 1) := by decide +kernel
theorem d_TX_addFour_27 : decode M_TX_addFour.2.1 27 = .ok (.i2b, 1) := by decide +kernel
theorem d_TX_addFour_28 : decode M_TX_addFour.2.1 28 = .ok (.bastore, 1) := by decide +kernel
theorem d_TX_addFour_29 : decode M_TX_addFour.2.1 29 = .ok (.aload_n 0, 1) := by decide +kernel
theorem d_TX_addFour_30 : decode M_TX_addFour.2.1 30 = .ok (.dup, 1) := by decide +kernel
theorem d_TX_addFour_31 : decode M_TX_addFour.2.1 31 = .ok (.getfield 14, 3) := by decide +kernel
theorem d_TX_addFour_34 : decode M_TX_addFour.2.1 34 = .ok (.iconst 1, 1) := by decide +kernel
theorem d_TX_addFour_35 : decode M_TX_addFour.2.1 35 = .ok (.iadd, 1) := by decide +kernel
theorem d_TX_addFour_36 : decode M_TX_addFour.2.1 36 = .ok (.putfield 14, 3) := by decide +kernel
theorem d_TX_addFour_39 : decode M_TX_addFour.2.1 39 = .ok (.iinc 2 (-8), 3) := by decide +kernel
theorem d_TX_addFour_42 : decode M_TX_addFour.2.1 42 = .ok (.goto (-39), 3) := by decide +kernel
theorem d_TX_addFour_45 : decode M_TX_addFour.2.1 45 = .ok (.return_, 1) := by decide +kernel
theorem k_TX_addFour : x_kV M_TX_addFour "QuestionReader$Text" 1 := ⟨⟨by decide, Or.inl ⟨w_872, rfl⟩⟩, w_870, w_871, ⟨by decide, by decide⟩, by decide +kernel⟩
def M_CT_hasDimension : x_M := (⟨"QuestionReader$Catalog", "hasDimension", "(I)Z"⟩, prog_2_method_2_code, 2, some (.boolean), [])
theorem d_CT_hasDimension_0 : decode M_CT_hasDimension.2.1 0 = .ok (.iload_n 1, 1) := by decide +kernel
theorem d_CT_hasDimension_1 : decode M_CT_hasDimension.2.1 1 = .ok (.ifCond .lt 15, 3) := by decide +kernel
theorem d_CT_hasDimension_4 : decode M_CT_hasDimension.2.1 4 = .ok (.iload_n 1, 1) := by decide +kernel
theorem d_CT_hasDimension_5 : decode M_CT_hasDimension.2.1 5 = .ok (.aload_n 0, 1) := by decide +kernel
theorem d_CT_hasDimension_6 : decode M_CT_hasDimension.2.1 6 = .ok (.getfield 25, 3) := by decide +kernel
theorem d_CT_hasDimension_9 : decode M_CT_hasDimension.2.1 9 = .ok (.if_icmp .ge 7, 3) := by decide +kernel
theorem d_CT_hasDimension_12 : decode M_CT_hasDimension.2.1 12 = .ok (.iconst 1, 1) := by decide +kernel
theorem d_CT_hasDimension_13 : decode M_CT_hasDimension.2.1 13 = .ok (.goto 4, 3) := by decide +kernel
theorem d_CT_hasDimension_16 : decode M_CT_hasDimension.2.1 16 = .ok (.iconst 0, 1) := by decide +kernel
theorem d_CT_hasDimension_17 : decode M_CT_hasDimension.2.1 17 = .ok (.ireturn, 1) := by decide +kernel
theorem k_CT_hasDimension : x_kV M_CT_hasDimension "QuestionReader$Catalog" 1 := ⟨⟨by decide, Or.inl ⟨w_925, rfl⟩⟩, w_923, w_924, ⟨by decide, by decide⟩, by decide +kernel⟩
def M_CT_hasLevel : x_M := (⟨"QuestionReader$Catalog", "hasLevel", "(II)Z"⟩, prog_2_method_3_code, 3, some (.boolean), [])
theorem d_CT_hasLevel_0 : decode M_CT_hasLevel.2.1 0 = .ok (.aload_n 0, 1) := by decide +kernel
theorem d_CT_hasLevel_1 : decode M_CT_hasLevel.2.1 1 = .ok (.iload_n 1, 1) := by decide +kernel
theorem d_CT_hasLevel_2 : decode M_CT_hasLevel.2.1 2 = .ok (.invokevirtual 29, 3) := by decide +kernel
theorem d_CT_hasLevel_5 : decode M_CT_hasLevel.2.1 5 = .ok (.ifCond .eq 24, 3) := by decide +kernel
theorem d_CT_hasLevel_8 : decode M_CT_hasLevel.2.1 8 = .ok (.iload_n 2, 1) := by decide +kernel
theorem d_CT_hasLevel_9 : decode M_CT_hasLevel.2.1 9 = .ok (.ifCond .lt 20, 3) := by decide +kernel
theorem d_CT_hasLevel_12 : decode M_CT_hasLevel.2.1 12 = .ok (.iload_n 2, 1) := by decide +kernel
theorem d_CT_hasLevel_13 : decode M_CT_hasLevel.2.1 13 = .ok (.aload_n 0, 1) := by decide +kernel
theorem d_CT_hasLevel_14 : decode M_CT_hasLevel.2.1 14 = .ok (.getfield 20, 3) := by decide +kernel
theorem d_CT_hasLevel_17 : decode M_CT_hasLevel.2.1 17 = .ok (.iload_n 1, 1) := by decide +kernel
theorem d_CT_hasLevel_18 : decode M_CT_hasLevel.2.1 18 = .ok (.aaload, 1) := by decide +kernel
theorem d_CT_hasLevel_19 : decode M_CT_hasLevel.2.1 19 = .ok (.getfield 33, 3) := by decide +kernel
theorem d_CT_hasLevel_22 : decode M_CT_hasLevel.2.1 22 = .ok (.if_icmp .ge 7, 3) := by decide +kernel
theorem d_CT_hasLevel_25 : decode M_CT_hasLevel.2.1 25 = .ok (.iconst 1, 1) := by decide +kernel
theorem d_CT_hasLevel_26 : decode M_CT_hasLevel.2.1 26 = .ok (.goto 4, 3) := by decide +kernel
theorem d_CT_hasLevel_29 : decode M_CT_hasLevel.2.1 29 = .ok (.iconst 0, 1) := by decide +kernel
theorem d_CT_hasLevel_30 : decode M_CT_hasLevel.2.1 30 = .ok (.ireturn, 1) := by decide +kernel
theorem k_CT_hasLevel : x_kV M_CT_hasLevel "QuestionReader$Catalog" 2 := ⟨⟨by decide, Or.inl ⟨w_936, rfl⟩⟩, w_934, w_935, ⟨by decide, by decide⟩, by decide +kernel⟩
def M_CT_hasMember : x_M := (⟨"QuestionReader$Catalog", "hasMember", "(II)Z"⟩, prog_2_method_4_code, 3, some (.boolean), [])
theorem d_CT_hasMember_0 : decode M_CT_hasMember.2.1 0 = .ok (.aload_n 0, 1) := by decide +kernel
theorem d_CT_hasMember_1 : decode M_CT_hasMember.2.1 1 = .ok (.iload_n 1, 1) := by decide +kernel
theorem d_CT_hasMember_2 : decode M_CT_hasMember.2.1 2 = .ok (.invokevirtual 29, 3) := by decide +kernel
theorem d_CT_hasMember_5 : decode M_CT_hasMember.2.1 5 = .ok (.ifCond .eq 24, 3) := by decide +kernel
theorem d_CT_hasMember_8 : decode M_CT_hasMember.2.1 8 = .ok (.iload_n 2, 1) := by decide +kernel
theorem d_CT_hasMember_9 : decode M_CT_hasMember.2.1 9 = .ok (.ifCond .lt 20, 3) := by decide +kernel
theorem d_CT_hasMember_12 : decode M_CT_hasMember.2.1 12 = .ok (.iload_n 2, 1) := by decide +kernel
theorem d_CT_hasMember_13 : decode M_CT_hasMember.2.1 13 = .ok (.aload_n 0, 1) := by decide +kernel
theorem d_CT_hasMember_14 : decode M_CT_hasMember.2.1 14 = .ok (.getfield 20, 3) := by decide +kernel
theorem d_CT_hasMember_17 : decode M_CT_hasMember.2.1 17 = .ok (.iload_n 1, 1) := by decide +kernel
theorem d_CT_hasMember_18 : decode M_CT_hasMember.2.1 18 = .ok (.aaload, 1) := by decide +kernel
theorem d_CT_hasMember_19 : decode M_CT_hasMember.2.1 19 = .ok (.getfield 36, 3) := by decide +kernel
theorem d_CT_hasMember_22 : decode M_CT_hasMember.2.1 22 = .ok (.if_icmp .ge 7, 3) := by decide +kernel
theorem d_CT_hasMember_25 : decode M_CT_hasMember.2.1 25 = .ok (.iconst 1, 1) := by decide +kernel
theorem d_CT_hasMember_26 : decode M_CT_hasMember.2.1 26 = .ok (.goto 4, 3) := by decide +kernel
theorem d_CT_hasMember_29 : decode M_CT_hasMember.2.1 29 = .ok (.iconst 0, 1) := by decide +kernel
theorem d_CT_hasMember_30 : decode M_CT_hasMember.2.1 30 = .ok (.ireturn, 1) := by decide +kernel
theorem k_CT_hasMember : x_kV M_CT_hasMember "QuestionReader$Catalog" 2 := ⟨⟨by decide, Or.inl ⟨w_941, rfl⟩⟩, w_939, w_940, ⟨by decide, by decide⟩, by decide +kernel⟩
def M_DM_valueAt : x_M := (⟨"QuestionReader$Dimension", "valueAt", "(II)I"⟩, prog_6_method_5_code, 3, some (.int), [])
theorem d_DM_valueAt_0 : decode M_DM_valueAt.2.1 0 = .ok (.aload_n 0, 1) := by decide +kernel
theorem d_DM_valueAt_1 : decode M_DM_valueAt.2.1 1 = .ok (.getfield 13, 3) := by decide +kernel
theorem d_DM_valueAt_4 : decode M_DM_valueAt.2.1 4 = .ok (.iload_n 1, 1) := by decide +kernel
theorem d_DM_valueAt_5 : decode M_DM_valueAt.2.1 5 = .ok (.aaload, 1) := by decide +kernel
theorem d_DM_valueAt_6 : decode M_DM_valueAt.2.1 6 = .ok (.aload_n 0, 1) := by decide +kernel
theorem d_DM_valueAt_7 : decode M_DM_valueAt.2.1 7 = .ok (.getfield 16, 3) := by decide +kernel
theorem d_DM_valueAt_10 : decode M_DM_valueAt.2.1 10 = .ok (.iload_n 2, 1) := by decide +kernel
theorem d_DM_valueAt_11 : decode M_DM_valueAt.2.1 11 = .ok (.iaload, 1) := by decide +kernel
theorem d_DM_valueAt_12 : decode M_DM_valueAt.2.1 12 = .ok (.iaload, 1) := by decide +kernel
theorem d_DM_valueAt_13 : decode M_DM_valueAt.2.1 13 = .ok (.ireturn, 1) := by decide +kernel
theorem k_DM_valueAt : x_kV M_DM_valueAt "QuestionReader$Dimension" 2 := ⟨⟨by decide, Or.inl ⟨w_945, rfl⟩⟩, w_943, w_944, ⟨by decide, by decide⟩, by decide +kernel⟩
def M_DM_distinctAt : x_M := (⟨"QuestionReader$Dimension", "distinctAt", "(I)I"⟩, prog_6_method_6_code, 2, some (.int), [])
theorem d_DM_distinctAt_0 : decode M_DM_distinctAt.2.1 0 = .ok (.aload_n 0, 1) := by decide +kernel
theorem d_DM_distinctAt_1 : decode M_DM_distinctAt.2.1 1 = .ok (.getfield 23, 3) := by decide +kernel
theorem d_DM_distinctAt_4 : decode M_DM_distinctAt.2.1 4 = .ok (.iload_n 1, 1) := by decide +kernel
theorem d_DM_distinctAt_5 : decode M_DM_distinctAt.2.1 5 = .ok (.iaload, 1) := by decide +kernel
theorem d_DM_distinctAt_6 : decode M_DM_distinctAt.2.1 6 = .ok (.ireturn, 1) := by decide +kernel
theorem k_DM_distinctAt : x_kV M_DM_distinctAt "QuestionReader$Dimension" 1 := ⟨⟨by decide, Or.inl ⟨w_961, rfl⟩⟩, w_959, w_960, ⟨by decide, by decide⟩, by decide +kernel⟩
def M_DM_placeOf : x_M := (⟨"QuestionReader$Dimension", "placeOf", "(I)I"⟩, prog_6_method_8_code, 3, some (.int), [])
theorem d_DM_placeOf_0 : decode M_DM_placeOf.2.1 0 = .ok (.aload_n 0, 1) := by decide +kernel
theorem d_DM_placeOf_1 : decode M_DM_placeOf.2.1 1 = .ok (.iconst 0, 1) := by decide +kernel
theorem d_DM_placeOf_2 : decode M_DM_placeOf.2.1 2 = .ok (.iload_n 1, 1) := by decide +kernel
theorem d_DM_placeOf_3 : decode M_DM_placeOf.2.1 3 = .ok (.invokevirtual 45, 3) := by decide +kernel
theorem d_DM_placeOf_6 : decode M_DM_placeOf.2.1 6 = .ok (.istore_n 2, 1) := by decide +kernel
theorem d_DM_placeOf_7 : decode M_DM_placeOf.2.1 7 = .ok (.iload_n 2, 1) := by decide +kernel
theorem d_DM_placeOf_8 : decode M_DM_placeOf.2.1 8 = .ok (.aload_n 0, 1) := by decide +kernel
theorem d_DM_placeOf_9 : decode M_DM_placeOf.2.1 9 = .ok (.getfield 23, 3) := by decide +kernel
theorem d_DM_placeOf_12 : decode M_DM_placeOf.2.1 12 = .ok (.iconst 0, 1) := by decide +kernel
theorem d_DM_placeOf_13 : decode M_DM_placeOf.2.1 13 = .ok (.iaload, 1) := by decide +kernel
theorem d_DM_placeOf_14 : decode M_DM_placeOf.2.1 14 = .ok (.if_icmp .ge 19, 3) := by decide +kernel
theorem d_DM_placeOf_17 : decode M_DM_placeOf.2.1 17 = .ok (.aload_n 0, 1) := by decide +kernel
theorem d_DM_placeOf_18 : decode M_DM_placeOf.2.1 18 = .ok (.getfield 20, 3) := by decide +kernel
theorem d_DM_placeOf_21 : decode M_DM_placeOf.2.1 21 = .ok (.iconst 0, 1) := by decide +kernel
theorem d_DM_placeOf_22 : decode M_DM_placeOf.2.1 22 = .ok (.aaload, 1) := by decide +kernel
theorem d_DM_placeOf_23 : decode M_DM_placeOf.2.1 23 = .ok (.iload_n 2, 1) := by decide +kernel
theorem d_DM_placeOf_24 : decode M_DM_placeOf.2.1 24 = .ok (.iaload, 1) := by decide +kernel
theorem d_DM_placeOf_25 : decode M_DM_placeOf.2.1 25 = .ok (.iload_n 1, 1) := by decide +kernel
theorem d_DM_placeOf_26 : decode M_DM_placeOf.2.1 26 = .ok (.if_icmp .ne 7, 3) := by decide +kernel
theorem d_DM_placeOf_29 : decode M_DM_placeOf.2.1 29 = .ok (.iload_n 2, 1) := by decide +kernel
theorem d_DM_placeOf_30 : decode M_DM_placeOf.2.1 30 = .ok (.goto 4, 3) := by decide +kernel
theorem d_DM_placeOf_33 : decode M_DM_placeOf.2.1 33 = .ok (.iconst (-1), 1) := by decide +kernel
theorem d_DM_placeOf_34 : decode M_DM_placeOf.2.1 34 = .ok (.ireturn, 1) := by decide +kernel
theorem k_DM_placeOf : x_kV M_DM_placeOf "QuestionReader$Dimension" 1 := ⟨⟨by decide, Or.inl ⟨w_973, rfl⟩⟩, w_971, w_972, ⟨by decide, by decide⟩, by decide +kernel⟩
def M_CT_dimensionOf : x_M := (⟨"QuestionReader$Catalog", "dimensionOf", "(I)I"⟩, prog_2_method_10_code, 1, some (.int), [])
theorem d_CT_dimensionOf_0 : decode M_CT_dimensionOf.2.1 0 = .ok (.iload_n 0, 1) := by decide +kernel
theorem d_CT_dimensionOf_1 : decode M_CT_dimensionOf.2.1 1 = .ok (.iconst 4, 1) := by decide +kernel
theorem d_CT_dimensionOf_2 : decode M_CT_dimensionOf.2.1 2 = .ok (.idiv, 1) := by decide +kernel
theorem d_CT_dimensionOf_3 : decode M_CT_dimensionOf.2.1 3 = .ok (.ireturn, 1) := by decide +kernel
theorem k_CT_dimensionOf : x_kS M_CT_dimensionOf 1 := ⟨⟨by decide, Or.inl ⟨w_987, rfl⟩⟩, w_986, w_6, ⟨by decide, by decide⟩, by decide +kernel⟩
def M_CT_levelOf : x_M := (⟨"QuestionReader$Catalog", "levelOf", "(I)I"⟩, prog_2_method_11_code, 1, some (.int), [])
theorem d_CT_levelOf_0 : decode M_CT_levelOf.2.1 0 = .ok (.iload_n 0, 1) := by decide +kernel
theorem d_CT_levelOf_1 : decode M_CT_levelOf.2.1 1 = .ok (.iconst 4, 1) := by decide +kernel
theorem d_CT_levelOf_2 : decode M_CT_levelOf.2.1 2 = .ok (.irem, 1) := by decide +kernel
theorem d_CT_levelOf_3 : decode M_CT_levelOf.2.1 3 = .ok (.ireturn, 1) := by decide +kernel
theorem k_CT_levelOf : x_kS M_CT_levelOf 1 := ⟨⟨by decide, Or.inl ⟨w_990, rfl⟩⟩, w_989, w_6, ⟨by decide, by decide⟩, by decide +kernel⟩
def M_CT_hasName : x_M := (⟨"QuestionReader$Catalog", "hasName", "(I)Z"⟩, prog_2_method_5_code, 3, some (.boolean), [])
theorem d_CT_hasName_0 : decode M_CT_hasName.2.1 0 = .ok (.iload_n 1, 1) := by decide +kernel
theorem d_CT_hasName_1 : decode M_CT_hasName.2.1 1 = .ok (.bipush 8, 2) := by decide +kernel
theorem d_CT_hasName_3 : decode M_CT_hasName.2.1 3 = .ok (.if_icmp .ge 9, 3) := by decide +kernel
theorem d_CT_hasName_6 : decode M_CT_hasName.2.1 6 = .ok (.aload_n 0, 1) := by decide +kernel
theorem d_CT_hasName_7 : decode M_CT_hasName.2.1 7 = .ok (.iload_n 1, 1) := by decide +kernel
theorem d_CT_hasName_8 : decode M_CT_hasName.2.1 8 = .ok (.invokevirtual 29, 3) := by decide +kernel
theorem d_CT_hasName_11 : decode M_CT_hasName.2.1 11 = .ok (.ireturn, 1) := by decide +kernel
theorem d_CT_hasName_12 : decode M_CT_hasName.2.1 12 = .ok (.iload_n 1, 1) := by decide +kernel
theorem d_CT_hasName_13 : decode M_CT_hasName.2.1 13 = .ok (.bipush 40, 2) := by decide +kernel
theorem d_CT_hasName_15 : decode M_CT_hasName.2.1 15 = .ok (.if_icmp .ge 21, 3) := by decide +kernel
theorem d_CT_hasName_18 : decode M_CT_hasName.2.1 18 = .ok (.iload_n 1, 1) := by decide +kernel
theorem d_CT_hasName_19 : decode M_CT_hasName.2.1 19 = .ok (.bipush 8, 2) := by decide +kernel
theorem d_CT_hasName_21 : decode M_CT_hasName.2.1 21 = .ok (.isub, 1) := by decide +kernel
theorem d_CT_hasName_22 : decode M_CT_hasName.2.1 22 = .ok (.istore_n 2, 1) := by decide +kernel
theorem d_CT_hasName_23 : decode M_CT_hasName.2.1 23 = .ok (.aload_n 0, 1) := by decide +kernel
theorem d_CT_hasName_24 : decode M_CT_hasName.2.1 24 = .ok (.iload_n 2, 1) := by decide +kernel
theorem d_CT_hasName_25 : decode M_CT_hasName.2.1 25 = .ok (.invokestatic 39, 3) := by decide +kernel
theorem d_CT_hasName_28 : decode M_CT_hasName.2.1 28 = .ok (.iload_n 2, 1) := by decide +kernel
theorem d_CT_hasName_29 : decode M_CT_hasName.2.1 29 = .ok (.invokestatic 43, 3) := by decide +kernel
theorem d_CT_hasName_32 : decode M_CT_hasName.2.1 32 = .ok (.invokevirtual 46, 3) := by decide +kernel
theorem d_CT_hasName_35 : decode M_CT_hasName.2.1 35 = .ok (.ireturn, 1) := by decide +kernel
theorem d_CT_hasName_36 : decode M_CT_hasName.2.1 36 = .ok (.iload_n 1, 1) := by decide +kernel
theorem d_CT_hasName_37 : decode M_CT_hasName.2.1 37 = .ok (.bipush 40, 2) := by decide +kernel
theorem d_CT_hasName_39 : decode M_CT_hasName.2.1 39 = .ok (.isub, 1) := by decide +kernel
theorem d_CT_hasName_40 : decode M_CT_hasName.2.1 40 = .ok (.aload_n 0, 1) := by decide +kernel
theorem d_CT_hasName_41 : decode M_CT_hasName.2.1 41 = .ok (.getfield 50, 3) := by decide +kernel
theorem d_CT_hasName_44 : decode M_CT_hasName.2.1 44 = .ok (.if_icmp .ge 7, 3) := by decide +kernel
theorem d_CT_hasName_47 : decode M_CT_hasName.2.1 47 = .ok (.iconst 1, 1) := by decide +kernel
theorem d_CT_hasName_48 : decode M_CT_hasName.2.1 48 = .ok (.goto 4, 3) := by decide +kernel
theorem d_CT_hasName_51 : decode M_CT_hasName.2.1 51 = .ok (.iconst 0, 1) := by decide +kernel
theorem d_CT_hasName_52 : decode M_CT_hasName.2.1 52 = .ok (.ireturn, 1) := by decide +kernel
theorem k_CT_hasName : x_kV M_CT_hasName "QuestionReader$Catalog" 1 := ⟨⟨by decide, Or.inl ⟨w_984, rfl⟩⟩, w_982, w_983, ⟨by decide, by decide⟩, by decide +kernel⟩
def B_QU_firstUngrouped_59 (p : Nat) (K2 : Int32 → x_m → Option (Int32 × x_m)) (l1 : Int32) (m : x_m) : Option (Int32 × x_m) := K2 (l1 + 1) m
theorem b_QU_firstUngrouped_59 {G : x_G} {ex : Bool} {r : Int32 × x_m} {p : Nat} (hp : x_QB p) {K2 : Int32 → x_m → Option (Int32 × x_m)} (hK2 : ∀ (l1 : Int32) (m : x_m), K2 l1 m = some r → x_W G M_QU_firstUngrouped (x_rd 1) (x_Q G (x_rd 1) ex (x_pi r)) ex x_np (x_hp m) 0 0 [(0, .ref p), (1, .int l1)] [] 2) {l1 : Int32} {m : x_m} (h : B_QU_firstUngrouped_59 p K2 l1 m = some r) : x_W G M_QU_firstUngrouped (x_rd 1) (x_Q G (x_rd 1) ex (x_pi r)) ex x_np (x_hp m) 0 0 [(0, .ref p), (1, .int l1)] [] 59 := by
  unfold B_QU_firstUngrouped_59 at h
  refine x_iinc (v := l1 + 1) (lv2 := [(0, .ref p), (1, .int (l1 + 1))]) d_QU_firstUngrouped_59 rfl rfl (by decide) rfl ?_
  refine x_goto (tgt := 2) d_QU_firstUngrouped_62 (by decide) ?_
  exact hK2 _ _ h
def B_QU_firstUngrouped_34 (p : Nat) (K2 : Int32 → x_m → Option (Int32 × x_m)) (l1 : Int32) (s0 : Int32) (m : x_m) : Option (Int32 × x_m) := (if s0 = 0 then B_QU_firstUngrouped_59 p K2 l1 m else (if x_ix l1 24 = true then ((F_QU_hasColumn p (m.2.1 (p + 2) l1.toNatClampNeg) m).bind fun r46 => (if r46.1 = 0 then (if x_ix l1 24 = true then some (r46.2.2.1 (p + 3) l1.toNatClampNeg, r46.2) else none) else B_QU_firstUngrouped_59 p K2 l1 r46.2)) else none))
theorem b_QU_firstUngrouped_34 {G : x_G} {ex : Bool} {r : Int32 × x_m} {p : Nat} (hp : x_QB p) {K2 : Int32 → x_m → Option (Int32 × x_m)} (hK2 : ∀ (l1 : Int32) (m : x_m), K2 l1 m = some r → x_W G M_QU_firstUngrouped (x_rd 1) (x_Q G (x_rd 1) ex (x_pi r)) ex x_np (x_hp m) 0 0 [(0, .ref p), (1, .int l1)] [] 2) {l1 : Int32} {s0 : Int32} {m : x_m} (h : B_QU_firstUngrouped_34 p K2 l1 s0 m = some r) : x_W G M_QU_firstUngrouped (x_rd 1) (x_Q G (x_rd 1) ex (x_pi r)) ex x_np (x_hp m) 0 0 [(0, .ref p), (1, .int l1)] [.int s0] 34 := by
  unfold B_QU_firstUngrouped_34 at h
  refine x_istore_n (lv2 := [(0, .ref p), (1, .int l1), (2, .int s0)]) d_QU_firstUngrouped_34 rfl (by decide) rfl ?_
  refine x_iload_n d_QU_firstUngrouped_35 rfl rfl ?_
  refine x_if_eq (tgt := 59) d_QU_firstUngrouped_36 (by decide) (fun c_ => ?_) (fun c_ => ?_)
  · replace h := x_it h c_
    refine x_sbk [0, 1] (lv2 := [(0, .ref p), (1, .int l1)]) rfl ?_; exact b_QU_firstUngrouped_59 hp hK2 h
  · replace h := x_ie h c_
    refine x_aload_n d_QU_firstUngrouped_39 rfl rfl ?_
    refine x_aload_n d_QU_firstUngrouped_40 rfl rfl ?_
    refine x_gC d_QU_firstUngrouped_41 (f_QU_15 rfl) (sh_QU hp) (hp_QU hp) rfl ?_
    refine x_iload_n d_QU_firstUngrouped_44 rfl rfl ?_
    obtain ⟨g_45, h⟩ := x_gd h
    refine x_lI d_QU_firstUngrouped_45 rfl (sa_QU_itemTargets hp) (ha_QU_itemTargets hp) g_45 ?_
    obtain ⟨r46, e46, h⟩ := x_bd h
    refine x_cVi (M2 := M_QU_hasColumn) (As := [.int (m.2.1 (p + 2) l1.toNatClampNeg)]) (st := []) d_QU_firstUngrouped_46 w_685 k_QU_hasColumn (c_QU_hasColumn hp e46) rfl (sh_QU hp) (hp_QU hp) rfl ⟨Nat.le_of_ble_eq_true rfl, Nat.le_of_ble_eq_true rfl⟩ (Nat.le_of_ble_eq_true rfl) (Nat.le_of_ble_eq_true rfl) rfl ?_
    refine x_if_ne (tgt := 59) d_QU_firstUngrouped_49 (by decide) (fun c_ => ?_) (fun c_ => ?_)
    · replace h := x_ie h c_
      refine x_sbk [0, 1] (lv2 := [(0, .ref p), (1, .int l1)]) rfl ?_; exact b_QU_firstUngrouped_59 hp hK2 h
    · replace h := x_it h c_
      refine x_aload_n d_QU_firstUngrouped_52 rfl rfl ?_
      refine x_gC d_QU_firstUngrouped_53 (f_QU_18 rfl) (sh_QU hp) (hp_QU hp) rfl ?_
      refine x_iload_n d_QU_firstUngrouped_56 rfl rfl ?_
      obtain ⟨g_57, h⟩ := x_gd h
      refine x_lI d_QU_firstUngrouped_57 rfl (sa_QU_itemPlaces hp) (ha_QU_itemPlaces hp) g_57 ?_
      cases h
      exact x_ri d_QU_firstUngrouped_58 rfl rfl
def B_QU_firstUngrouped_29 (p : Nat) (K2 : Int32 → x_m → Option (Int32 × x_m)) (l1 : Int32) (m : x_m) : Option (Int32 × x_m) := B_QU_firstUngrouped_34 p K2 l1 1 m
theorem b_QU_firstUngrouped_29 {G : x_G} {ex : Bool} {r : Int32 × x_m} {p : Nat} (hp : x_QB p) {K2 : Int32 → x_m → Option (Int32 × x_m)} (hK2 : ∀ (l1 : Int32) (m : x_m), K2 l1 m = some r → x_W G M_QU_firstUngrouped (x_rd 1) (x_Q G (x_rd 1) ex (x_pi r)) ex x_np (x_hp m) 0 0 [(0, .ref p), (1, .int l1)] [] 2) {l1 : Int32} {m : x_m} (h : B_QU_firstUngrouped_29 p K2 l1 m = some r) : x_W G M_QU_firstUngrouped (x_rd 1) (x_Q G (x_rd 1) ex (x_pi r)) ex x_np (x_hp m) 0 0 [(0, .ref p), (1, .int l1)] [] 29 := by
  unfold B_QU_firstUngrouped_29 at h
  refine x_iconst (v := 1) d_QU_firstUngrouped_29 (by decide) ?_
  refine x_goto (tgt := 34) d_QU_firstUngrouped_30 (by decide) ?_
  exact b_QU_firstUngrouped_34 hp hK2 h
def B_QU_firstUngrouped_2 (p : Nat)  : Nat → Int32 → x_m → Option (Int32 × x_m)
  | 0, _, _ => none
  | f_ + 1, l1, m => (if (m.1 p 0) ≤ l1 then some ((-1), m) else (if x_ix l1 24 = true then (if (m.2.1 (p + 1) l1.toNatClampNeg) = 0 then B_QU_firstUngrouped_29 p (B_QU_firstUngrouped_2 p f_) l1 m else (if x_ix l1 24 = true then (if (m.2.1 (p + 1) l1.toNatClampNeg) = 5 then B_QU_firstUngrouped_29 p (B_QU_firstUngrouped_2 p f_) l1 m else B_QU_firstUngrouped_34 p (B_QU_firstUngrouped_2 p f_) l1 0 m) else none)) else none))
theorem b_QU_firstUngrouped_2 {G : x_G} {ex : Bool} {r : Int32 × x_m} {p : Nat} (hp : x_QB p)  : ∀ (f_ : Nat) (l1 : Int32) (m : x_m), B_QU_firstUngrouped_2 p f_ l1 m = some r → x_W G M_QU_firstUngrouped (x_rd 1) (x_Q G (x_rd 1) ex (x_pi r)) ex x_np (x_hp m) 0 0 [(0, .ref p), (1, .int l1)] [] 2 := by
  intro f_
  induction f_ with
  | zero => intro l1 m h; exact nomatch h
  | succ f_ ih =>
    intro l1 m h
    rw [B_QU_firstUngrouped_2] at h
    have hK2 := ih
    refine x_iload_n d_QU_firstUngrouped_2 rfl rfl ?_
    refine x_aload_n d_QU_firstUngrouped_3 rfl rfl ?_
    refine x_gI d_QU_firstUngrouped_4 (f_QU_34 rfl) (sh_QU hp) (hp_QU hp) rfl ?_
    refine x_icmp_ge (tgt := 65) d_QU_firstUngrouped_7 (by decide) (fun c_ => ?_) (fun c_ => ?_)
    · replace h := x_it h c_
      refine x_iconst (v := (-1)) d_QU_firstUngrouped_65 (by decide) ?_
      cases h
      exact x_ri d_QU_firstUngrouped_66 rfl rfl
    · replace h := x_ie h c_
      refine x_aload_n d_QU_firstUngrouped_10 rfl rfl ?_
      refine x_gC d_QU_firstUngrouped_11 (f_QU_11 rfl) (sh_QU hp) (hp_QU hp) rfl ?_
      refine x_iload_n d_QU_firstUngrouped_14 rfl rfl ?_
      obtain ⟨g_15, h⟩ := x_gd h
      refine x_lI d_QU_firstUngrouped_15 rfl (sa_QU_itemTypes hp) (ha_QU_itemTypes hp) g_15 ?_
      refine x_if_eq (tgt := 29) d_QU_firstUngrouped_16 (by decide) (fun c_ => ?_) (fun c_ => ?_)
      · replace h := x_it h c_
        exact b_QU_firstUngrouped_29 hp hK2 h
      · replace h := x_ie h c_
        refine x_aload_n d_QU_firstUngrouped_19 rfl rfl ?_
        refine x_gC d_QU_firstUngrouped_20 (f_QU_11 rfl) (sh_QU hp) (hp_QU hp) rfl ?_
        refine x_iload_n d_QU_firstUngrouped_23 rfl rfl ?_
        obtain ⟨g_24, h⟩ := x_gd h
        refine x_lI d_QU_firstUngrouped_24 rfl (sa_QU_itemTypes hp) (ha_QU_itemTypes hp) g_24 ?_
        refine x_iconst (v := 5) d_QU_firstUngrouped_25 (by decide) ?_
        refine x_icmp_ne (tgt := 33) d_QU_firstUngrouped_26 (by decide) (fun c_ => ?_) (fun c_ => ?_)
        · replace h := x_ie h c_
          refine x_iconst (v := 0) d_QU_firstUngrouped_33 (by decide) ?_
          exact b_QU_firstUngrouped_34 hp hK2 h
        · replace h := x_it h c_
          exact b_QU_firstUngrouped_29 hp hK2 h
def F_QU_firstUngrouped (p : Nat)  (m : x_m) : Option (Int32 × x_m) := B_QU_firstUngrouped_2 p x_fu 0 m
theorem c_QU_firstUngrouped {G : x_G} {ex : Bool} {r : Int32 × x_m} {p : Nat} (hp : x_QB p)  {m : x_m} (h : F_QU_firstUngrouped p m = some r) : x_R G M_QU_firstUngrouped (x_rd 1) ex [.ref p] x_np (x_hp m) (x_pi r) := by
  unfold F_QU_firstUngrouped at h
  show x_W G M_QU_firstUngrouped (x_rd 1) (x_Q G (x_rd 1) ex (x_pi r)) ex x_np (x_hp m) 0 0 [(0, .ref p)] [] 0
  refine x_iconst (v := 0) d_QU_firstUngrouped_0 (by decide) ?_
  refine x_istore_n (lv2 := [(0, .ref p), (1, .int 0)]) d_QU_firstUngrouped_1 rfl (by decide) rfl ?_
  exact b_QU_firstUngrouped_2 hp _ _ _ h
def F_CN_clear (p : Nat)  (m : x_m) : Option (x_m) := ((F_CN_clearLine p (x_wS (x_wS (x_wS m p 0 0) p 3 0) p 1 0)).bind fun r16 => some r16)
theorem c_CN_clear {G : x_G} {ex : Bool} {r : x_m} {p : Nat} (hp : x_CN p)  {m : x_m} (h : F_CN_clear p m = some r) : x_R G M_CN_clear (x_rd 1) ex [.ref p] x_np (x_hp m) (x_pv r) := by
  unfold F_CN_clear at h
  show x_W G M_CN_clear (x_rd 1) (x_Q G (x_rd 1) ex (x_pv r)) ex x_np (x_hp m) 0 0 [(0, .ref p)] [] 0
  refine x_aload_n d_CN_clear_0 rfl rfl ?_
  refine x_iconst (v := 0) d_CN_clear_1 (by decide) ?_
  refine x_pI d_CN_clear_2 (f_CN_44 rfl) tb_CN rfl (sh_CN hp) (hp_CN hp) rfl ⟨rfl, rfl⟩ ?_
  refine x_aload_n d_CN_clear_5 rfl rfl ?_
  refine x_iconst (v := 0) d_CN_clear_6 (by decide) ?_
  refine x_pI d_CN_clear_7 (f_CN_48 rfl) tb_CN rfl (sh_CN hp) (hp_CN hp) rfl ⟨rfl, rfl⟩ ?_
  refine x_aload_n d_CN_clear_10 rfl rfl ?_
  refine x_iconst (v := 0) d_CN_clear_11 (by decide) ?_
  refine x_pI d_CN_clear_12 (f_CN_51 rfl) tb_CN rfl (sh_CN hp) (hp_CN hp) rfl ⟨rfl, rfl⟩ ?_
  refine x_aload_n d_CN_clear_15 rfl rfl ?_
  obtain ⟨r16, e16, h⟩ := x_bd h
  refine x_cVv (M2 := M_CN_clearLine) (As := []) (st := []) d_CN_clear_16 w_382 k_CN_clearLine (c_CN_clearLine hp e16) rfl (sh_CN hp) (hp_CN hp) rfl ⟨Nat.le_of_ble_eq_true rfl, Nat.le_of_ble_eq_true rfl⟩ (Nat.le_of_ble_eq_true rfl) (Nat.le_of_ble_eq_true rfl) rfl ?_
  cases h
  exact x_rv d_CN_clear_19 rfl
def F_QU_clear (p : Nat)  (m : x_m) : Option (x_m) := ((F_CN_clear (p + 6) (x_wS (x_wS (x_wS m p 0 0) p 4 0) p 6 0)).bind fun r19 => some r19)
theorem c_QU_clear {G : x_G} {ex : Bool} {r : x_m} {p : Nat} (hp : x_QB p)  {m : x_m} (h : F_QU_clear p m = some r) : x_R G M_QU_clear (x_rd 2) ex [.ref p] x_np (x_hp m) (x_pv r) := by
  unfold F_QU_clear at h
  show x_W G M_QU_clear (x_rd 2) (x_Q G (x_rd 2) ex (x_pv r)) ex x_np (x_hp m) 0 0 [(0, .ref p)] [] 0
  refine x_aload_n d_QU_clear_0 rfl rfl ?_
  refine x_iconst (v := 0) d_QU_clear_1 (by decide) ?_
  refine x_pI d_QU_clear_2 (f_QU_34 rfl) tb_QU rfl (sh_QU hp) (hp_QU hp) rfl ⟨rfl, rfl⟩ ?_
  refine x_aload_n d_QU_clear_5 rfl rfl ?_
  refine x_iconst (v := 0) d_QU_clear_6 (by decide) ?_
  refine x_pI d_QU_clear_7 (f_QU_38 rfl) tb_QU rfl (sh_QU hp) (hp_QU hp) rfl ⟨rfl, rfl⟩ ?_
  refine x_aload_n d_QU_clear_10 rfl rfl ?_
  refine x_iconst (v := 0) d_QU_clear_11 (by decide) ?_
  refine x_pI d_QU_clear_12 (f_QU_41 rfl) tb_QU rfl (sh_QU hp) (hp_QU hp) rfl ⟨rfl, rfl⟩ ?_
  refine x_aload_n d_QU_clear_15 rfl rfl ?_
  refine x_gC d_QU_clear_16 (f_QU_30 rfl) (sh_QU hp) (hp_QU hp) rfl ?_
  obtain ⟨r19, e19, h⟩ := x_bd h
  refine x_cVv (M2 := M_CN_clear) (As := []) (st := []) d_QU_clear_19 w_378 k_CN_clear (c_CN_clear (x_CN_of hp) e19) rfl (sh_CN (x_CN_of hp)) (hp_CN (x_CN_of hp)) rfl ⟨Nat.le_of_ble_eq_true rfl, Nat.le_of_ble_eq_true rfl⟩ (Nat.le_of_ble_eq_true rfl) (Nat.le_of_ble_eq_true rfl) rfl ?_
  cases h
  exact x_rv d_QU_clear_22 rfl
def F_QU_restart (p : Nat)  (m : x_m) : Option (x_m) := ((F_QU_clear p m).bind fun r1 => (if x_ix 0 32 = true then some (x_wS (x_wA r1 (p + 5) (0 : Int32).toNatClampNeg 0) p 6 1) else none))
theorem c_QU_restart {G : x_G} {ex : Bool} {r : x_m} {p : Nat} (hp : x_QB p)  {m : x_m} (h : F_QU_restart p m = some r) : x_R G M_QU_restart (x_rd 3) ex [.ref p] x_np (x_hp m) (x_pv r) := by
  unfold F_QU_restart at h
  show x_W G M_QU_restart (x_rd 3) (x_Q G (x_rd 3) ex (x_pv r)) ex x_np (x_hp m) 0 0 [(0, .ref p)] [] 0
  refine x_aload_n d_QU_restart_0 rfl rfl ?_
  obtain ⟨r1, e1, h⟩ := x_bd h
  refine x_cVv (M2 := M_QU_clear) (As := []) (st := []) d_QU_restart_1 w_446 k_QU_clear (c_QU_clear hp e1) rfl (sh_QU hp) (hp_QU hp) rfl ⟨Nat.le_of_ble_eq_true rfl, Nat.le_of_ble_eq_true rfl⟩ (Nat.le_of_ble_eq_true rfl) (Nat.le_of_ble_eq_true rfl) rfl ?_
  refine x_aload_n d_QU_restart_4 rfl rfl ?_
  refine x_gC d_QU_restart_5 (f_QU_24 rfl) (sh_QU hp) (hp_QU hp) rfl ?_
  refine x_iconst (v := 0) d_QU_restart_8 (by decide) ?_
  refine x_iconst (v := 0) d_QU_restart_9 (by decide) ?_
  obtain ⟨g_10, h⟩ := x_gd h
  refine x_sI d_QU_restart_10 rfl (sa_QU_sets hp) (ha_QU_sets hp) g_10 ?_
  refine x_aload_n d_QU_restart_11 rfl rfl ?_
  refine x_iconst (v := 1) d_QU_restart_12 (by decide) ?_
  refine x_pI d_QU_restart_13 (f_QU_41 rfl) tb_QU rfl (sh_QU hp) (hp_QU hp) rfl ⟨rfl, rfl⟩ ?_
  cases h
  exact x_rv d_QU_restart_16 rfl
def B_QG_readQuestion_80    (m : x_m) : Option (Int32 × x_m) := ((F_LX_at (x_N + 8) m).bind fun r87 => (if r87.1 = 0 then some (0, r87.2) else (if x_qb (r87.2.2.2.1 114 4) = true then ((F_QU_firstUngrouped (r87.2.2.2.1 114 4) r87.2).bind fun r99 => (if r99.1 = ((-1)) then (if x_qb (r99.2.2.2.1 114 3) = true then (if x_qb (r99.2.2.2.1 114 4) = true then some (1, x_wR (x_wR r99.2 114 3 (r99.2.2.2.1 114 4)) 114 4 (r99.2.2.2.1 114 3)) else none) else none) else ((F_LX_tell 11 r99.1 r99.2).bind fun r115 => (if x_b1 r115.1 = true then some (r115.1, r115.2) else none)))) else none)))
theorem b_QG_readQuestion_80 {G : x_G} {ex : Bool} {r : Int32 × x_m}    {m : x_m} (h : B_QG_readQuestion_80 m = some r) : x_W G M_QG_readQuestion (x_rd 6) (x_Q G (x_rd 6) ex (x_pi r)) ex x_np (x_hp m) 0 0 [(0, .ref 114)] [] 80 := by
  unfold B_QG_readQuestion_80 at h
  refine x_aload_n d_QG_readQuestion_80 rfl rfl ?_
  refine x_gC d_QG_readQuestion_81 (f_QG_21 rfl) sh_QG hp_QG rfl ?_
  refine x_gets (i := 8) d_QG_readQuestion_84 (by decide) w_679 ?_
  obtain ⟨r87, e87, h⟩ := x_bd h
  refine x_cVi (M2 := M_LX_at) (As := [.ref (x_N + 8)]) (st := []) d_QG_readQuestion_87 w_512 k_LX_at (c_LX_at e87) rfl sh_LX hp_LX rfl ⟨Nat.le_of_ble_eq_true rfl, Nat.le_of_ble_eq_true rfl⟩ (Nat.le_of_ble_eq_true rfl) (Nat.le_of_ble_eq_true rfl) rfl ?_
  refine x_if_ne (tgt := 95) d_QG_readQuestion_90 (by decide) (fun c_ => ?_) (fun c_ => ?_)
  · replace h := x_ie h c_
    refine x_aload_n d_QG_readQuestion_95 rfl rfl ?_
    refine x_gR d_QG_readQuestion_96 (f_QG_18 rfl) sh_QG hp_QG rfl ?_
    obtain ⟨g_96, h⟩ := x_gd h
    obtain ⟨r99, e99, h⟩ := x_bd h
    refine x_cVi (M2 := M_QU_firstUngrouped) (As := []) (st := []) d_QG_readQuestion_99 w_681 k_QU_firstUngrouped (c_QU_firstUngrouped (x_qb_ok g_96) e99) rfl (sh_QU (x_qb_ok g_96)) (hp_QU (x_qb_ok g_96)) rfl ⟨Nat.le_of_ble_eq_true rfl, Nat.le_of_ble_eq_true rfl⟩ (Nat.le_of_ble_eq_true rfl) (Nat.le_of_ble_eq_true rfl) rfl ?_
    refine x_istore_n (lv2 := [(0, .ref 114), (1, .int r99.1)]) d_QG_readQuestion_102 rfl (by decide) rfl ?_
    refine x_iload_n d_QG_readQuestion_103 rfl rfl ?_
    refine x_iconst (v := (-1)) d_QG_readQuestion_104 (by decide) ?_
    refine x_icmp_eq (tgt := 119) d_QG_readQuestion_105 (by decide) (fun c_ => ?_) (fun c_ => ?_)
    · replace h := x_it h c_
      refine x_aload_n d_QG_readQuestion_119 rfl rfl ?_
      refine x_gR d_QG_readQuestion_120 (f_QG_12 rfl) sh_QG hp_QG rfl ?_
      obtain ⟨g_120, h⟩ := x_gd h
      refine x_astore_n (lv2 := [(0, .ref 114), (1, .int r99.1), (2, .ref (r99.2.2.2.1 114 3))]) d_QG_readQuestion_123 rfl (by decide) rfl ?_
      refine x_aload_n d_QG_readQuestion_124 rfl rfl ?_
      refine x_aload_n d_QG_readQuestion_125 rfl rfl ?_
      refine x_gR d_QG_readQuestion_126 (f_QG_18 rfl) sh_QG hp_QG rfl ?_
      obtain ⟨g_126, h⟩ := x_gd h
      refine x_pR d_QG_readQuestion_129 (f_QG_12 rfl) tb_QG rfl sh_QG hp_QG rfl ⟨rfl, rfl⟩ ?_
      refine x_aload_n d_QG_readQuestion_132 rfl rfl ?_
      refine x_aload_n d_QG_readQuestion_133 rfl rfl ?_
      refine x_pR d_QG_readQuestion_134 (f_QG_18 rfl) tb_QG rfl sh_QG hp_QG rfl ⟨rfl, rfl⟩ ?_
      refine x_iconst (v := 1) d_QG_readQuestion_137 (by decide) ?_
      cases h
      exact x_ri d_QG_readQuestion_138 rfl rfl
    · replace h := x_ie h c_
      refine x_aload_n d_QG_readQuestion_108 rfl rfl ?_
      refine x_gC d_QG_readQuestion_109 (f_QG_21 rfl) sh_QG hp_QG rfl ?_
      refine x_bipush (v := 11) d_QG_readQuestion_112 (by decide) ?_
      refine x_iload_n d_QG_readQuestion_114 rfl rfl ?_
      obtain ⟨r115, e115, h⟩ := x_bd h
      refine x_cVi (M2 := M_LX_tell) (As := [.int 11, .int r99.1]) (st := []) d_QG_readQuestion_115 w_665 k_LX_tell (c_LX_tell e115) rfl sh_LX hp_LX rfl ⟨Nat.le_of_ble_eq_true rfl, Nat.le_of_ble_eq_true rfl⟩ (Nat.le_of_ble_eq_true rfl) (Nat.le_of_ble_eq_true rfl) rfl ?_
      obtain ⟨g_118, h⟩ := x_gd h
      cases h
      exact x_ri d_QG_readQuestion_118 rfl (x_b1_ok g_118).1
  · replace h := x_it h c_
    refine x_iconst (v := 0) d_QG_readQuestion_93 (by decide) ?_
    cases h
    exact x_ri d_QG_readQuestion_94 rfl rfl
def B_QG_readQuestion_58    (m : x_m) : Option (Int32 × x_m) := (if x_kv (m.2.2.1 3 1) = true then (if (m.2.2.1 3 1) = (x_N + 22) then ((F_QG_readGroups m).bind fun r72 => (if r72.1 = 0 then some (0, r72.2) else B_QG_readQuestion_80 r72.2)) else B_QG_readQuestion_80 m) else none)
theorem b_QG_readQuestion_58 {G : x_G} {ex : Bool} {r : Int32 × x_m}    {m : x_m} (h : B_QG_readQuestion_58 m = some r) : x_W G M_QG_readQuestion (x_rd 6) (x_Q G (x_rd 6) ex (x_pi r)) ex x_np (x_hp m) 0 0 [(0, .ref 114)] [] 58 := by
  unfold B_QG_readQuestion_58 at h
  refine x_aload_n d_QG_readQuestion_58 rfl rfl ?_
  refine x_gC d_QG_readQuestion_59 (f_QG_21 rfl) sh_QG hp_QG rfl ?_
  refine x_gR d_QG_readQuestion_62 (f_QG_53 rfl) sh_LX hp_LX rfl ?_
  refine x_gets (i := 22) d_QG_readQuestion_65 (by decide) w_645 ?_
  obtain ⟨g_68_0, h⟩ := x_gd h
  refine x_kacmp_ne (tgt := 80) d_QG_readQuestion_68 (by decide) g_68_0 (x_kvN 22 (by decide)) (fun c_ => ?_) (fun c_ => ?_)
  · replace h := x_ie h c_
    exact b_QG_readQuestion_80 h
  · replace h := x_it h c_
    refine x_aload_n d_QG_readQuestion_71 rfl rfl ?_
    obtain ⟨r72, e72, h⟩ := x_bd h
    refine x_cVi (M2 := M_QG_readGroups) (As := []) (st := []) d_QG_readQuestion_72 w_647 k_QG_readGroups (c_QG_readGroups e72) rfl sh_QG hp_QG rfl ⟨Nat.le_of_ble_eq_true rfl, Nat.le_of_ble_eq_true rfl⟩ (Nat.le_of_ble_eq_true rfl) (Nat.le_of_ble_eq_true rfl) rfl ?_
    refine x_if_ne (tgt := 80) d_QG_readQuestion_75 (by decide) (fun c_ => ?_) (fun c_ => ?_)
    · replace h := x_ie h c_
      exact b_QG_readQuestion_80 h
    · replace h := x_it h c_
      refine x_iconst (v := 0) d_QG_readQuestion_78 (by decide) ?_
      cases h
      exact x_ri d_QG_readQuestion_79 rfl rfl
def F_QG_readQuestion   (m : x_m) : Option (Int32 × x_m) := (if (m.1 4 4) = 0 then ((F_LX_tellHere 8 m).bind fun r16 => (if x_b1 r16.1 = true then some (r16.1, r16.2) else none)) else (if x_qb (m.2.2.1 114 4) = true then ((F_QU_restart (m.2.2.1 114 4) m).bind fun r24 => ((F_QG_readItems r24).bind fun r28 => (if r28.1 = 0 then some (0, r28.2) else (if x_kv (r28.2.2.2.1 3 1) = true then (if (r28.2.2.2.1 3 1) = (x_N + 21) then ((F_QG_readWhere r28.2).bind fun r50 => (if r50.1 = 0 then some (0, r50.2) else B_QG_readQuestion_58 r50.2)) else B_QG_readQuestion_58 r28.2) else none)))) else none))
theorem c_QG_readQuestion {G : x_G} {ex : Bool} {r : Int32 × x_m}   {m : x_m} (h : F_QG_readQuestion m = some r) : x_R G M_QG_readQuestion (x_rd 6) ex [.ref 114] x_np (x_hp m) (x_pi r) := by
  unfold F_QG_readQuestion at h
  show x_W G M_QG_readQuestion (x_rd 6) (x_Q G (x_rd 6) ex (x_pi r)) ex x_np (x_hp m) 0 0 [(0, .ref 114)] [] 0
  refine x_aload_n d_QG_readQuestion_0 rfl rfl ?_
  refine x_gC d_QG_readQuestion_1 (f_QG_25 rfl) sh_QG hp_QG rfl ?_
  refine x_gI d_QG_readQuestion_4 (f_QG_36 rfl) sh_CT hp_CT rfl ?_
  refine x_if_ne (tgt := 20) d_QG_readQuestion_7 (by decide) (fun c_ => ?_) (fun c_ => ?_)
  · replace h := x_ie h c_
    refine x_aload_n d_QG_readQuestion_20 rfl rfl ?_
    refine x_gR d_QG_readQuestion_21 (f_QG_18 rfl) sh_QG hp_QG rfl ?_
    obtain ⟨g_21, h⟩ := x_gd h
    obtain ⟨r24, e24, h⟩ := x_bd h
    refine x_cVv (M2 := M_QU_restart) (As := []) (st := []) d_QG_readQuestion_24 w_442 k_QU_restart (c_QU_restart (x_qb_ok g_21) e24) rfl (sh_QU (x_qb_ok g_21)) (hp_QU (x_qb_ok g_21)) rfl ⟨Nat.le_of_ble_eq_true rfl, Nat.le_of_ble_eq_true rfl⟩ (Nat.le_of_ble_eq_true rfl) (Nat.le_of_ble_eq_true rfl) rfl ?_
    refine x_aload_n d_QG_readQuestion_27 rfl rfl ?_
    obtain ⟨r28, e28, h⟩ := x_bd h
    refine x_cVi (M2 := M_QG_readItems) (As := []) (st := []) d_QG_readQuestion_28 w_447 k_QG_readItems (c_QG_readItems e28) rfl sh_QG hp_QG rfl ⟨Nat.le_of_ble_eq_true rfl, Nat.le_of_ble_eq_true rfl⟩ (Nat.le_of_ble_eq_true rfl) (Nat.le_of_ble_eq_true rfl) rfl ?_
    refine x_if_ne (tgt := 36) d_QG_readQuestion_31 (by decide) (fun c_ => ?_) (fun c_ => ?_)
    · replace h := x_ie h c_
      refine x_aload_n d_QG_readQuestion_36 rfl rfl ?_
      refine x_gC d_QG_readQuestion_37 (f_QG_21 rfl) sh_QG hp_QG rfl ?_
      refine x_gR d_QG_readQuestion_40 (f_QG_53 rfl) sh_LX hp_LX rfl ?_
      refine x_gets (i := 21) d_QG_readQuestion_43 (by decide) w_521 ?_
      obtain ⟨g_46_0, h⟩ := x_gd h
      refine x_kacmp_ne (tgt := 58) d_QG_readQuestion_46 (by decide) g_46_0 (x_kvN 21 (by decide)) (fun c_ => ?_) (fun c_ => ?_)
      · replace h := x_ie h c_
        exact b_QG_readQuestion_58 h
      · replace h := x_it h c_
        refine x_aload_n d_QG_readQuestion_49 rfl rfl ?_
        obtain ⟨r50, e50, h⟩ := x_bd h
        refine x_cVi (M2 := M_QG_readWhere) (As := []) (st := []) d_QG_readQuestion_50 w_523 k_QG_readWhere (c_QG_readWhere e50) rfl sh_QG hp_QG rfl ⟨Nat.le_of_ble_eq_true rfl, Nat.le_of_ble_eq_true rfl⟩ (Nat.le_of_ble_eq_true rfl) (Nat.le_of_ble_eq_true rfl) rfl ?_
        refine x_if_ne (tgt := 58) d_QG_readQuestion_53 (by decide) (fun c_ => ?_) (fun c_ => ?_)
        · replace h := x_ie h c_
          exact b_QG_readQuestion_58 h
        · replace h := x_it h c_
          refine x_iconst (v := 0) d_QG_readQuestion_56 (by decide) ?_
          cases h
          exact x_ri d_QG_readQuestion_57 rfl rfl
    · replace h := x_it h c_
      refine x_iconst (v := 0) d_QG_readQuestion_34 (by decide) ?_
      cases h
      exact x_ri d_QG_readQuestion_35 rfl rfl
  · replace h := x_it h c_
    refine x_aload_n d_QG_readQuestion_10 rfl rfl ?_
    refine x_gC d_QG_readQuestion_11 (f_QG_21 rfl) sh_QG hp_QG rfl ?_
    refine x_bipush (v := 8) d_QG_readQuestion_14 (by decide) ?_
    obtain ⟨r16, e16, h⟩ := x_bd h
    refine x_cVi (M2 := M_LX_tellHere) (As := [.int 8]) (st := []) d_QG_readQuestion_16 w_434 k_LX_tellHere (c_LX_tellHere e16) rfl sh_LX hp_LX rfl ⟨Nat.le_of_ble_eq_true rfl, Nat.le_of_ble_eq_true rfl⟩ (Nat.le_of_ble_eq_true rfl) (Nat.le_of_ble_eq_true rfl) rfl ?_
    obtain ⟨g_19, h⟩ := x_gd h
    cases h
    exact x_ri d_QG_readQuestion_19 rfl (x_b1_ok g_19).1
def B_QR_run_107   (l1 : Int32) (m : x_m) : Option (Int32 × x_m) := some (l1, x_wS m 1 1 0)
theorem b_QR_run_107 {G : x_G} {ex : Bool} {r : Int32 × x_m}   {l1 : Int32} {m : x_m} (h : B_QR_run_107 l1 m = some r) : x_W G M_QR_run (x_rd 7) (x_Q G (x_rd 7) ex (x_pi r)) ex x_np (x_hp m) 0 0 [(0, .ref 0), (1, .int l1)] [] 107 := by
  unfold B_QR_run_107 at h
  refine x_aload_n d_QR_run_107 rfl rfl ?_
  refine x_gC d_QR_run_108 (f_QR_10 rfl) sh_QR hp_QR rfl ?_
  refine x_iconst (v := 0) d_QR_run_111 (by decide) ?_
  refine x_pI d_QR_run_112 (f_QR_48 rfl) tb_TX rfl sh_TX hp_TX rfl ⟨rfl, rfl⟩ ?_
  refine x_iload_n d_QR_run_115 rfl rfl ?_
  cases h
  exact x_ri d_QR_run_116 rfl rfl
def B_QR_run_90  (K21 : Int32 → Int32 → x_m → Option (Int32 × x_m)) (l1 : Int32) (l2 : Int32) (s0 : Int32) (m : x_m) : Option (Int32 × x_m) := (if s0 = 0 then B_QR_run_107 l1 m else K21 (l1 + 1) (l2 + 1) m)
theorem b_QR_run_90 {G : x_G} {ex : Bool} {r : Int32 × x_m}  {K21 : Int32 → Int32 → x_m → Option (Int32 × x_m)} (hK21 : ∀ (l1 : Int32) (l2 : Int32) (m : x_m), K21 l1 l2 m = some r → x_W G M_QR_run (x_rd 7) (x_Q G (x_rd 7) ex (x_pi r)) ex x_np (x_hp m) 0 0 [(0, .ref 0), (1, .int l1), (2, .int l2)] [] 21) {l1 : Int32} {l2 : Int32} {s0 : Int32} {m : x_m} (h : B_QR_run_90 K21 l1 l2 s0 m = some r) : x_W G M_QR_run (x_rd 7) (x_Q G (x_rd 7) ex (x_pi r)) ex x_np (x_hp m) 0 0 [(0, .ref 0), (1, .int l1), (2, .int l2)] [.int s0] 90 := by
  unfold B_QR_run_90 at h
  refine x_istore_n (lv2 := [(0, .ref 0), (1, .int l1), (2, .int l2), (3, .int s0)]) d_QR_run_90 rfl (by decide) rfl ?_
  refine x_iload_n d_QR_run_91 rfl rfl ?_
  refine x_if_ne (tgt := 98) d_QR_run_92 (by decide) (fun c_ => ?_) (fun c_ => ?_)
  · replace h := x_ie h c_
    refine x_iinc (v := l1 + 1) (lv2 := [(0, .ref 0), (1, .int (l1 + 1)), (2, .int l2), (3, .int s0)]) d_QR_run_98 rfl rfl (by decide) rfl ?_
    refine x_iinc (v := l2 + 1) (lv2 := [(0, .ref 0), (1, .int (l1 + 1)), (2, .int (l2 + 1)), (3, .int s0)]) d_QR_run_101 rfl rfl (by decide) rfl ?_
    refine x_goto (tgt := 21) d_QR_run_104 (by decide) ?_
    refine x_sbk [0, 1, 2] (lv2 := [(0, .ref 0), (1, .int (l1 + 1)), (2, .int (l2 + 1))]) rfl ?_; exact hK21 _ _ _ h
  · replace h := x_it h c_
    refine x_goto (tgt := 107) d_QR_run_95 (by decide) ?_
    refine x_sbk [0, 1] (lv2 := [(0, .ref 0), (1, .int l1)]) rfl ?_; exact b_QR_run_107 h
def B_QR_run_89  (K21 : Int32 → Int32 → x_m → Option (Int32 × x_m)) (l1 : Int32) (l2 : Int32) (m : x_m) : Option (Int32 × x_m) := B_QR_run_90 K21 l1 l2 0 m
theorem b_QR_run_89 {G : x_G} {ex : Bool} {r : Int32 × x_m}  {K21 : Int32 → Int32 → x_m → Option (Int32 × x_m)} (hK21 : ∀ (l1 : Int32) (l2 : Int32) (m : x_m), K21 l1 l2 m = some r → x_W G M_QR_run (x_rd 7) (x_Q G (x_rd 7) ex (x_pi r)) ex x_np (x_hp m) 0 0 [(0, .ref 0), (1, .int l1), (2, .int l2)] [] 21) {l1 : Int32} {l2 : Int32} {m : x_m} (h : B_QR_run_89 K21 l1 l2 m = some r) : x_W G M_QR_run (x_rd 7) (x_Q G (x_rd 7) ex (x_pi r)) ex x_np (x_hp m) 0 0 [(0, .ref 0), (1, .int l1), (2, .int l2)] [] 89 := by
  unfold B_QR_run_89 at h
  refine x_iconst (v := 0) d_QR_run_89 (by decide) ?_
  exact b_QR_run_90 hK21 h
def B_QR_run_21   : Nat → Int32 → Int32 → x_m → Option (Int32 × x_m)
  | 0, _, _, _ => none
  | f_ + 1, l1, l2, m => (if (m.1 1 1) < l2 then B_QR_run_107 l1 m else ((F_LX_advance m).bind fun r36 => (if x_kv (r36.2.2.1 3 1) = true then (if (r36.2.2.1 3 1) = (x_N + 20) then ((F_QG_readQuestion r36).bind fun r56 => B_QR_run_90 (B_QR_run_21 f_) l1 l2 r56.1 r56.2) else (if x_kv (r36.2.2.1 3 1) = true then (if (r36.2.2.1 3 1) = (x_N + 0) then B_QR_run_89 (B_QR_run_21 f_) l1 l2 r36 else ((F_CG_readStatement r36).bind fun r79 => (if r79.1 = 0 then B_QR_run_89 (B_QR_run_21 f_) l1 l2 r79.2 else B_QR_run_90 (B_QR_run_21 f_) l1 l2 1 r79.2))) else none)) else none)))
theorem b_QR_run_21 {G : x_G} {ex : Bool} {r : Int32 × x_m}   : ∀ (f_ : Nat) (l1 : Int32) (l2 : Int32) (m : x_m), B_QR_run_21 f_ l1 l2 m = some r → x_W G M_QR_run (x_rd 7) (x_Q G (x_rd 7) ex (x_pi r)) ex x_np (x_hp m) 0 0 [(0, .ref 0), (1, .int l1), (2, .int l2)] [] 21 := by
  intro f_
  induction f_ with
  | zero => intro l1 l2 m h; exact nomatch h
  | succ f_ ih =>
    intro l1 l2 m h
    rw [B_QR_run_21] at h
    have hK21 := ih
    refine x_iload_n d_QR_run_21 rfl rfl ?_
    refine x_aload_n d_QR_run_22 rfl rfl ?_
    refine x_gC d_QR_run_23 (f_QR_10 rfl) sh_QR hp_QR rfl ?_
    refine x_gI d_QR_run_26 (f_QR_48 rfl) sh_TX hp_TX rfl ?_
    refine x_icmp_gt (tgt := 107) d_QR_run_29 (by decide) (fun c_ => ?_) (fun c_ => ?_)
    · replace h := x_it h c_
      refine x_sbk [0, 1] (lv2 := [(0, .ref 0), (1, .int l1)]) rfl ?_; exact b_QR_run_107 h
    · replace h := x_ie h c_
      refine x_aload_n d_QR_run_32 rfl rfl ?_
      refine x_gC d_QR_run_33 (f_QR_21 rfl) sh_QR hp_QR rfl ?_
      obtain ⟨r36, e36, h⟩ := x_bd h
      refine x_cVv (M2 := M_LX_advance) (As := []) (st := []) d_QR_run_36 w_386 k_LX_advance (c_LX_advance e36) rfl sh_LX hp_LX rfl ⟨Nat.le_of_ble_eq_true rfl, Nat.le_of_ble_eq_true rfl⟩ (Nat.le_of_ble_eq_true rfl) (Nat.le_of_ble_eq_true rfl) rfl ?_
      refine x_aload_n d_QR_run_39 rfl rfl ?_
      refine x_gC d_QR_run_40 (f_QR_21 rfl) sh_QR hp_QR rfl ?_
      refine x_gR d_QR_run_43 (f_QR_83 rfl) sh_LX hp_LX rfl ?_
      refine x_gets (i := 20) d_QR_run_46 (by decide) w_428 ?_
      obtain ⟨g_49_0, h⟩ := x_gd h
      refine x_kacmp_ne (tgt := 62) d_QR_run_49 (by decide) g_49_0 (x_kvN 20 (by decide)) (fun c_ => ?_) (fun c_ => ?_)
      · replace h := x_ie h c_
        refine x_aload_n d_QR_run_62 rfl rfl ?_
        refine x_gC d_QR_run_63 (f_QR_21 rfl) sh_QR hp_QR rfl ?_
        refine x_gR d_QR_run_66 (f_QR_83 rfl) sh_LX hp_LX rfl ?_
        refine x_gets (i := 0) d_QR_run_69 (by decide) w_686 ?_
        obtain ⟨g_72_0, h⟩ := x_gd h
        refine x_kacmp_eq (tgt := 89) d_QR_run_72 (by decide) g_72_0 (x_kvN 0 (by decide)) (fun c_ => ?_) (fun c_ => ?_)
        · replace h := x_it h c_
          exact b_QR_run_89 hK21 h
        · replace h := x_ie h c_
          refine x_aload_n d_QR_run_75 rfl rfl ?_
          refine x_gC d_QR_run_76 (f_QR_37 rfl) sh_QR hp_QR rfl ?_
          obtain ⟨r79, e79, h⟩ := x_bd h
          refine x_cVi (M2 := M_CG_readStatement) (As := []) (st := []) d_QR_run_79 w_687 k_CG_readStatement (c_CG_readStatement e79) rfl sh_CG hp_CG rfl ⟨Nat.le_of_ble_eq_true rfl, Nat.le_of_ble_eq_true rfl⟩ (Nat.le_of_ble_eq_true rfl) (Nat.le_of_ble_eq_true rfl) rfl ?_
          refine x_if_eq (tgt := 89) d_QR_run_82 (by decide) (fun c_ => ?_) (fun c_ => ?_)
          · replace h := x_it h c_
            exact b_QR_run_89 hK21 h
          · replace h := x_ie h c_
            refine x_iconst (v := 1) d_QR_run_85 (by decide) ?_
            refine x_goto (tgt := 90) d_QR_run_86 (by decide) ?_
            exact b_QR_run_90 hK21 h
      · replace h := x_it h c_
        refine x_aload_n d_QR_run_52 rfl rfl ?_
        refine x_gC d_QR_run_53 (f_QR_44 rfl) sh_QR hp_QR rfl ?_
        obtain ⟨r56, e56, h⟩ := x_bd h
        refine x_cVi (M2 := M_QG_readQuestion) (As := []) (st := []) d_QR_run_56 w_430 k_QG_readQuestion (c_QG_readQuestion e56) rfl sh_QG hp_QG rfl ⟨Nat.le_of_ble_eq_true rfl, Nat.le_of_ble_eq_true rfl⟩ (Nat.le_of_ble_eq_true rfl) (Nat.le_of_ble_eq_true rfl) rfl ?_
        refine x_goto (tgt := 90) d_QR_run_59 (by decide) ?_
        exact b_QR_run_90 hK21 h
def F_QR_run   (m : x_m) : Option (Int32 × x_m) := ((F_LX_restart m).bind fun r4 => (if x_qb (r4.2.2.1 114 3) = true then ((F_QU_clear (r4.2.2.1 114 3) r4).bind fun r14 => B_QR_run_21 x_fu 0 0 r14) else none))
theorem c_QR_run {G : x_G} {ex : Bool} {r : Int32 × x_m}   {m : x_m} (h : F_QR_run m = some r) : x_R G M_QR_run (x_rd 7) ex [.ref 0] x_np (x_hp m) (x_pi r) := by
  unfold F_QR_run at h
  show x_W G M_QR_run (x_rd 7) (x_Q G (x_rd 7) ex (x_pi r)) ex x_np (x_hp m) 0 0 [(0, .ref 0)] [] 0
  refine x_aload_n d_QR_run_0 rfl rfl ?_
  refine x_gC d_QR_run_1 (f_QR_21 rfl) sh_QR hp_QR rfl ?_
  obtain ⟨r4, e4, h⟩ := x_bd h
  refine x_cVv (M2 := M_LX_restart) (As := []) (st := []) d_QR_run_4 w_370 k_LX_restart (c_LX_restart e4) rfl sh_LX hp_LX rfl ⟨Nat.le_of_ble_eq_true rfl, Nat.le_of_ble_eq_true rfl⟩ (Nat.le_of_ble_eq_true rfl) (Nat.le_of_ble_eq_true rfl) rfl ?_
  refine x_aload_n d_QR_run_7 rfl rfl ?_
  refine x_gC d_QR_run_8 (f_QR_44 rfl) sh_QR hp_QR rfl ?_
  refine x_gR d_QR_run_11 (f_QR_71 rfl) sh_QG hp_QG rfl ?_
  obtain ⟨g_11, h⟩ := x_gd h
  obtain ⟨r14, e14, h⟩ := x_bd h
  refine x_cVv (M2 := M_QU_clear) (As := []) (st := []) d_QR_run_14 w_374 k_QU_clear (c_QU_clear (x_qb_ok g_11) e14) rfl (sh_QU (x_qb_ok g_11)) (hp_QU (x_qb_ok g_11)) rfl ⟨Nat.le_of_ble_eq_true rfl, Nat.le_of_ble_eq_true rfl⟩ (Nat.le_of_ble_eq_true rfl) (Nat.le_of_ble_eq_true rfl) rfl ?_
  refine x_iconst (v := 0) d_QR_run_17 (by decide) ?_
  refine x_istore_n (lv2 := [(0, .ref 0), (1, .int 0)]) d_QR_run_18 rfl (by decide) rfl ?_
  refine x_iconst (v := 0) d_QR_run_19 (by decide) ?_
  refine x_istore_n (lv2 := [(0, .ref 0), (1, .int 0), (2, .int 0)]) d_QR_run_20 rfl (by decide) rfl ?_
  exact b_QR_run_21 _ _ _ _ h
def B_DM_lowerThan_65 (p : Nat)  (l3 : Int32) (m : x_m) : Option (Int32 × x_m) := some (l3, m)
theorem b_DM_lowerThan_65 {G : x_G} {ex : Bool} {r : Int32 × x_m} {p : Nat} (hp : x_DM p)  {l3 : Int32} {m : x_m} (h : B_DM_lowerThan_65 p l3 m = some r) : x_W G M_DM_lowerThan (x_rd 0) (x_Q G (x_rd 0) ex (x_pi r)) ex x_np (x_hp m) 0 0 [(3, .int l3)] [] 65 := by
  unfold B_DM_lowerThan_65 at h
  refine x_iload_n d_DM_lowerThan_65 rfl rfl ?_
  cases h
  exact x_ri d_DM_lowerThan_66 rfl rfl
def B_DM_lowerThan_59 (p : Nat) (K13 : Int32 → Int32 → Int32 → Int32 → Int32 → x_m → Option (Int32 × x_m)) (l1 : Int32) (l2 : Int32) (l3 : Int32) (l4 : Int32) (l5 : Int32) (m : x_m) : Option (Int32 × x_m) := K13 l1 l2 l3 l4 (l5 + 1) m
theorem b_DM_lowerThan_59 {G : x_G} {ex : Bool} {r : Int32 × x_m} {p : Nat} (hp : x_DM p) {K13 : Int32 → Int32 → Int32 → Int32 → Int32 → x_m → Option (Int32 × x_m)} (hK13 : ∀ (l1 : Int32) (l2 : Int32) (l3 : Int32) (l4 : Int32) (l5 : Int32) (m : x_m), K13 l1 l2 l3 l4 l5 m = some r → x_W G M_DM_lowerThan (x_rd 0) (x_Q G (x_rd 0) ex (x_pi r)) ex x_np (x_hp m) 0 0 [(0, .ref p), (1, .int l1), (2, .int l2), (3, .int l3), (4, .int l4), (5, .int l5)] [] 13) {l1 : Int32} {l2 : Int32} {l3 : Int32} {l4 : Int32} {l5 : Int32} {m : x_m} (h : B_DM_lowerThan_59 p K13 l1 l2 l3 l4 l5 m = some r) : x_W G M_DM_lowerThan (x_rd 0) (x_Q G (x_rd 0) ex (x_pi r)) ex x_np (x_hp m) 0 0 [(0, .ref p), (1, .int l1), (2, .int l2), (3, .int l3), (4, .int l4), (5, .int l5)] [] 59 := by
  unfold B_DM_lowerThan_59 at h
  refine x_iinc (v := l5 + 1) (lv2 := [(0, .ref p), (1, .int l1), (2, .int l2), (3, .int l3), (4, .int l4), (5, .int (l5 + 1))]) d_DM_lowerThan_59 rfl rfl (by decide) rfl ?_
  refine x_goto (tgt := 13) d_DM_lowerThan_62 (by decide) ?_
  exact hK13 _ _ _ _ _ _ h
def B_DM_lowerThan_13 (p : Nat)  : Nat → Int32 → Int32 → Int32 → Int32 → Int32 → x_m → Option (Int32 × x_m)
  | 0, _, _, _, _, _, _ => none
  | f_ + 1, l1, l2, l3, l4, l5, m => (if 32 ≤ l5 then B_DM_lowerThan_65 p l3 m else (if l4 ≤ l3 then B_DM_lowerThan_65 p l3 m else (if x_ix l1 4 = true then (if x_ix (((l3 + l4).toUInt32 >>> ((1 : Int32).toUInt32 &&& Int32.toUInt32 31)).toInt32) 1000 = true then (if l2 ≤ (m.2.1 (p + 8 + l1.toNatClampNeg) (((l3 + l4).toUInt32 >>> ((1 : Int32).toUInt32 &&& Int32.toUInt32 31)).toInt32).toNatClampNeg) then B_DM_lowerThan_59 p (B_DM_lowerThan_13 p f_) l1 l2 l3 (((l3 + l4).toUInt32 >>> ((1 : Int32).toUInt32 &&& Int32.toUInt32 31)).toInt32) l5 m else B_DM_lowerThan_59 p (B_DM_lowerThan_13 p f_) l1 l2 ((((l3 + l4).toUInt32 >>> ((1 : Int32).toUInt32 &&& Int32.toUInt32 31)).toInt32) + 1) l4 l5 m) else none) else none)))
theorem b_DM_lowerThan_13 {G : x_G} {ex : Bool} {r : Int32 × x_m} {p : Nat} (hp : x_DM p)  : ∀ (f_ : Nat) (l1 : Int32) (l2 : Int32) (l3 : Int32) (l4 : Int32) (l5 : Int32) (m : x_m), B_DM_lowerThan_13 p f_ l1 l2 l3 l4 l5 m = some r → x_W G M_DM_lowerThan (x_rd 0) (x_Q G (x_rd 0) ex (x_pi r)) ex x_np (x_hp m) 0 0 [(0, .ref p), (1, .int l1), (2, .int l2), (3, .int l3), (4, .int l4), (5, .int l5)] [] 13 := by
  intro f_
  induction f_ with
  | zero => intro l1 l2 l3 l4 l5 m h; exact nomatch h
  | succ f_ ih =>
    intro l1 l2 l3 l4 l5 m h
    rw [B_DM_lowerThan_13] at h
    have hK13 := ih
    refine x_iload d_DM_lowerThan_13 rfl ?_
    refine x_bipush (v := 32) d_DM_lowerThan_15 (by decide) ?_
    refine x_icmp_ge (tgt := 65) d_DM_lowerThan_17 (by decide) (fun c_ => ?_) (fun c_ => ?_)
    · replace h := x_it h c_
      refine x_sbk [3] (lv2 := [(3, .int l3)]) rfl ?_; exact b_DM_lowerThan_65 hp h
    · replace h := x_ie h c_
      refine x_iload_n d_DM_lowerThan_20 rfl rfl ?_
      refine x_iload d_DM_lowerThan_21 rfl ?_
      refine x_icmp_ge (tgt := 65) d_DM_lowerThan_23 (by decide) (fun c_ => ?_) (fun c_ => ?_)
      · replace h := x_it h c_
        refine x_sbk [3] (lv2 := [(3, .int l3)]) rfl ?_; exact b_DM_lowerThan_65 hp h
      · replace h := x_ie h c_
        refine x_iload_n d_DM_lowerThan_26 rfl rfl ?_
        refine x_iload d_DM_lowerThan_27 rfl ?_
        refine x_iadd d_DM_lowerThan_29 ?_
        refine x_iconst (v := 1) d_DM_lowerThan_30 (by decide) ?_
        refine x_iushr d_DM_lowerThan_31 ?_
        refine x_istore (lv2 := [(0, .ref p), (1, .int l1), (2, .int l2), (3, .int l3), (4, .int l4), (5, .int l5), (6, .int (((l3 + l4).toUInt32 >>> ((1 : Int32).toUInt32 &&& Int32.toUInt32 31)).toInt32))]) d_DM_lowerThan_32 (by decide) rfl ?_
        refine x_aload_n d_DM_lowerThan_34 rfl rfl ?_
        refine x_gC d_DM_lowerThan_35 (f_DM_20 rfl) (sh_DM hp) (hp_DM hp) rfl ?_
        refine x_iload_n d_DM_lowerThan_38 rfl rfl ?_
        obtain ⟨g_39, h⟩ := x_gd h
        refine x_lA (b := p + 8 + l1.toNatClampNeg) d_DM_lowerThan_39 rfl (sa_DM_sorted hp) (ha_DM_sorted hp) g_39 (if_pos (x_ix_lt g_39)) ?_
        refine x_iload d_DM_lowerThan_40 rfl ?_
        obtain ⟨g_42, h⟩ := x_gd h
        refine x_lI d_DM_lowerThan_42 rfl (sa_DM_srow hp (x_ix_lt g_39)) (ha_DM_srow hp (x_ix_lt g_39)) g_42 ?_
        refine x_iload_n d_DM_lowerThan_43 rfl rfl ?_
        refine x_icmp_ge (tgt := 55) d_DM_lowerThan_44 (by decide) (fun c_ => ?_) (fun c_ => ?_)
        · replace h := x_it h c_
          refine x_iload d_DM_lowerThan_55 rfl ?_
          refine x_istore (lv2 := [(0, .ref p), (1, .int l1), (2, .int l2), (3, .int l3), (4, .int (((l3 + l4).toUInt32 >>> ((1 : Int32).toUInt32 &&& Int32.toUInt32 31)).toInt32)), (5, .int l5), (6, .int (((l3 + l4).toUInt32 >>> ((1 : Int32).toUInt32 &&& Int32.toUInt32 31)).toInt32))]) d_DM_lowerThan_57 (by decide) rfl ?_
          refine x_sbk [0, 1, 2, 3, 4, 5] (lv2 := [(0, .ref p), (1, .int l1), (2, .int l2), (3, .int l3), (4, .int (((l3 + l4).toUInt32 >>> ((1 : Int32).toUInt32 &&& Int32.toUInt32 31)).toInt32)), (5, .int l5)]) rfl ?_; exact b_DM_lowerThan_59 hp hK13 h
        · replace h := x_ie h c_
          refine x_iload d_DM_lowerThan_47 rfl ?_
          refine x_iconst (v := 1) d_DM_lowerThan_49 (by decide) ?_
          refine x_iadd d_DM_lowerThan_50 ?_
          refine x_istore_n (lv2 := [(0, .ref p), (1, .int l1), (2, .int l2), (3, .int ((((l3 + l4).toUInt32 >>> ((1 : Int32).toUInt32 &&& Int32.toUInt32 31)).toInt32) + 1)), (4, .int l4), (5, .int l5), (6, .int (((l3 + l4).toUInt32 >>> ((1 : Int32).toUInt32 &&& Int32.toUInt32 31)).toInt32))]) d_DM_lowerThan_51 rfl (by decide) rfl ?_
          refine x_goto (tgt := 59) d_DM_lowerThan_52 (by decide) ?_
          refine x_sbk [0, 1, 2, 3, 4, 5] (lv2 := [(0, .ref p), (1, .int l1), (2, .int l2), (3, .int ((((l3 + l4).toUInt32 >>> ((1 : Int32).toUInt32 &&& Int32.toUInt32 31)).toInt32) + 1)), (4, .int l4), (5, .int l5)]) rfl ?_; exact b_DM_lowerThan_59 hp hK13 h
def F_DM_lowerThan (p : Nat) (a1 : Int32) (a2 : Int32) (m : x_m) : Option (Int32 × x_m) := (if x_ix a1 4 = true then B_DM_lowerThan_13 p x_fu a1 a2 0 (m.2.1 (p + 12) a1.toNatClampNeg) 0 m else none)
theorem c_DM_lowerThan {G : x_G} {ex : Bool} {r : Int32 × x_m} {p : Nat} (hp : x_DM p) {a1 : Int32} {a2 : Int32} {m : x_m} (h : F_DM_lowerThan p a1 a2 m = some r) : x_R G M_DM_lowerThan (x_rd 0) ex [.ref p, .int a1, .int a2] x_np (x_hp m) (x_pi r) := by
  unfold F_DM_lowerThan at h
  show x_W G M_DM_lowerThan (x_rd 0) (x_Q G (x_rd 0) ex (x_pi r)) ex x_np (x_hp m) 0 0 [(0, .ref p), (1, .int a1), (2, .int a2)] [] 0
  refine x_iconst (v := 0) d_DM_lowerThan_0 (by decide) ?_
  refine x_istore_n (lv2 := [(0, .ref p), (1, .int a1), (2, .int a2), (3, .int 0)]) d_DM_lowerThan_1 rfl (by decide) rfl ?_
  refine x_aload_n d_DM_lowerThan_2 rfl rfl ?_
  refine x_gC d_DM_lowerThan_3 (f_DM_23 rfl) (sh_DM hp) (hp_DM hp) rfl ?_
  refine x_iload_n d_DM_lowerThan_6 rfl rfl ?_
  obtain ⟨g_7, h⟩ := x_gd h
  refine x_lI d_DM_lowerThan_7 rfl (sa_DM_sortedCounts hp) (ha_DM_sortedCounts hp) g_7 ?_
  refine x_istore (lv2 := [(0, .ref p), (1, .int a1), (2, .int a2), (3, .int 0), (4, .int (m.2.1 (p + 12) a1.toNatClampNeg))]) d_DM_lowerThan_8 (by decide) rfl ?_
  refine x_iconst (v := 0) d_DM_lowerThan_10 (by decide) ?_
  refine x_istore (lv2 := [(0, .ref p), (1, .int a1), (2, .int a2), (3, .int 0), (4, .int (m.2.1 (p + 12) a1.toNatClampNeg)), (5, .int 0)]) d_DM_lowerThan_11 (by decide) rfl ?_
  exact b_DM_lowerThan_13 hp _ _ _ _ _ _ _ h
def B_DM_insert_89 (p : Nat)   (m : x_m) : Option (x_m) := some m
theorem b_DM_insert_89 {G : x_G} {ex : Bool} {r : x_m} {p : Nat} (hp : x_DM p)   {m : x_m} (h : B_DM_insert_89 p m = some r) : x_W G M_DM_insert (x_rd 1) (x_Q G (x_rd 1) ex (x_pv r)) ex x_np (x_hp m) 0 0 [] [] 89 := by
  unfold B_DM_insert_89 at h
  cases h
  exact x_rv d_DM_insert_89 rfl
def B_DM_insert_43 (p : Nat)  (l1 : Int32) (l2 : Int32) (l3 : Nat) (l4 : Int32) (l5 : Int32) (s0 : Int32) (m : x_m) : Option (x_m) := (if s0 = 0 then (if 1000 ≤ l4 then B_DM_insert_89 p m else (if x_cg l5 (l5 + 1) (l4 - l5) 1000 1000 = true then (if x_ix l5 1000 = true then (if x_ix l1 4 = true then B_DM_insert_89 p (x_wA (x_wA (x_wC m l3 l3 l5.toNatClampNeg (l5 + 1).toNatClampNeg (l4 - l5).toNatClampNeg) l3 l5.toNatClampNeg l2) (p + 12) l1.toNatClampNeg (l4 + 1)) else none) else none) else none)) else B_DM_insert_89 p m)
theorem b_DM_insert_43 {G : x_G} {ex : Bool} {r : x_m} {p : Nat} (hp : x_DM p)  {l1 : Int32} {l2 : Int32} {l3 : Nat} (hl3 : x_shape l3 = .inr (.inl (0, 1000)) ∧ l3 < x_np) {l4 : Int32} {l5 : Int32} {s0 : Int32} {m : x_m} (h : B_DM_insert_43 p l1 l2 l3 l4 l5 s0 m = some r) : x_W G M_DM_insert (x_rd 1) (x_Q G (x_rd 1) ex (x_pv r)) ex x_np (x_hp m) 0 0 [(0, .ref p), (1, .int l1), (2, .int l2), (3, .ref l3), (4, .int l4), (5, .int l5)] [.int s0] 43 := by
  unfold B_DM_insert_43 at h
  refine x_istore (lv2 := [(0, .ref p), (1, .int l1), (2, .int l2), (3, .ref l3), (4, .int l4), (5, .int l5), (6, .int s0)]) d_DM_insert_43 (by decide) rfl ?_
  refine x_iload d_DM_insert_45 rfl ?_
  refine x_if_ne (tgt := 89) d_DM_insert_47 (by decide) (fun c_ => ?_) (fun c_ => ?_)
  · replace h := x_ie h c_
    refine x_sbk [] (lv2 := []) rfl ?_; exact b_DM_insert_89 hp h
  · replace h := x_it h c_
    refine x_iload d_DM_insert_50 rfl ?_
    refine x_sipush (v := 1000) d_DM_insert_52 (by decide) ?_
    refine x_icmp_ge (tgt := 89) d_DM_insert_55 (by decide) (fun c_ => ?_) (fun c_ => ?_)
    · replace h := x_it h c_
      refine x_sbk [] (lv2 := []) rfl ?_; exact b_DM_insert_89 hp h
    · replace h := x_ie h c_
      refine x_aload_n d_DM_insert_58 rfl rfl ?_
      refine x_iload d_DM_insert_59 rfl ?_
      refine x_aload_n d_DM_insert_61 rfl rfl ?_
      refine x_iload d_DM_insert_62 rfl ?_
      refine x_iconst (v := 1) d_DM_insert_64 (by decide) ?_
      refine x_iadd d_DM_insert_65 ?_
      refine x_iload d_DM_insert_66 rfl ?_
      refine x_iload d_DM_insert_68 rfl ?_
      refine x_isub d_DM_insert_70 ?_
      obtain ⟨g_71, h⟩ := x_gd h
      refine x_cpM d_DM_insert_71 w_793 rfl rfl hl3.1 hl3.2 hl3.1 hl3.2 g_71 (fun _ _ => rfl) (Nat.le_of_ble_eq_true rfl) (Nat.le_of_ble_eq_true rfl) ?_
      refine x_aload_n d_DM_insert_74 rfl rfl ?_
      refine x_iload d_DM_insert_75 rfl ?_
      refine x_iload_n d_DM_insert_77 rfl rfl ?_
      obtain ⟨g_78, h⟩ := x_gd h
      refine x_sI d_DM_insert_78 rfl hl3.1 hl3.2 g_78 ?_
      refine x_aload_n d_DM_insert_79 rfl rfl ?_
      refine x_gC d_DM_insert_80 (f_DM_23 rfl) (sh_DM hp) (hp_DM hp) rfl ?_
      refine x_iload_n d_DM_insert_83 rfl rfl ?_
      refine x_iload d_DM_insert_84 rfl ?_
      refine x_iconst (v := 1) d_DM_insert_86 (by decide) ?_
      refine x_iadd d_DM_insert_87 ?_
      obtain ⟨g_88, h⟩ := x_gd h
      refine x_sI d_DM_insert_88 rfl (sa_DM_sortedCounts hp) (ha_DM_sortedCounts hp) g_88 ?_
      refine x_sbk [] (lv2 := []) rfl ?_; exact b_DM_insert_89 hp h
def B_DM_insert_42 (p : Nat)  (l1 : Int32) (l2 : Int32) (l3 : Nat) (l4 : Int32) (l5 : Int32) (m : x_m) : Option (x_m) := B_DM_insert_43 p l1 l2 l3 l4 l5 0 m
theorem b_DM_insert_42 {G : x_G} {ex : Bool} {r : x_m} {p : Nat} (hp : x_DM p)  {l1 : Int32} {l2 : Int32} {l3 : Nat} (hl3 : x_shape l3 = .inr (.inl (0, 1000)) ∧ l3 < x_np) {l4 : Int32} {l5 : Int32} {m : x_m} (h : B_DM_insert_42 p l1 l2 l3 l4 l5 m = some r) : x_W G M_DM_insert (x_rd 1) (x_Q G (x_rd 1) ex (x_pv r)) ex x_np (x_hp m) 0 0 [(0, .ref p), (1, .int l1), (2, .int l2), (3, .ref l3), (4, .int l4), (5, .int l5)] [] 42 := by
  unfold B_DM_insert_42 at h
  refine x_iconst (v := 0) d_DM_insert_42 (by decide) ?_
  exact b_DM_insert_43 hp ⟨hl3.1, hl3.2⟩ h
def F_DM_insert (p : Nat) (a1 : Int32) (a2 : Int32) (m : x_m) : Option (x_m) := (if x_ix a1 4 = true then (if x_ix a1 4 = true then ((F_DM_lowerThan p a1 a2 m).bind fun r18 => (if (m.2.1 (p + 12) a1.toNatClampNeg) ≤ r18.1 then B_DM_insert_42 p a1 a2 (p + 8 + a1.toNatClampNeg) (m.2.1 (p + 12) a1.toNatClampNeg) r18.1 r18.2 else (if x_ix r18.1 1000 = true then (if (r18.2.2.1 (p + 8 + a1.toNatClampNeg) r18.1.toNatClampNeg) = a2 then B_DM_insert_43 p a1 a2 (p + 8 + a1.toNatClampNeg) (m.2.1 (p + 12) a1.toNatClampNeg) r18.1 1 r18.2 else B_DM_insert_42 p a1 a2 (p + 8 + a1.toNatClampNeg) (m.2.1 (p + 12) a1.toNatClampNeg) r18.1 r18.2) else none))) else none) else none)
theorem c_DM_insert {G : x_G} {ex : Bool} {r : x_m} {p : Nat} (hp : x_DM p) {a1 : Int32} {a2 : Int32} {m : x_m} (h : F_DM_insert p a1 a2 m = some r) : x_R G M_DM_insert (x_rd 1) ex [.ref p, .int a1, .int a2] x_np (x_hp m) (x_pv r) := by
  unfold F_DM_insert at h
  show x_W G M_DM_insert (x_rd 1) (x_Q G (x_rd 1) ex (x_pv r)) ex x_np (x_hp m) 0 0 [(0, .ref p), (1, .int a1), (2, .int a2)] [] 0
  refine x_aload_n d_DM_insert_0 rfl rfl ?_
  refine x_gC d_DM_insert_1 (f_DM_20 rfl) (sh_DM hp) (hp_DM hp) rfl ?_
  refine x_iload_n d_DM_insert_4 rfl rfl ?_
  obtain ⟨g_5, h⟩ := x_gd h
  refine x_lA (b := p + 8 + a1.toNatClampNeg) d_DM_insert_5 rfl (sa_DM_sorted hp) (ha_DM_sorted hp) g_5 (if_pos (x_ix_lt g_5)) ?_
  refine x_astore_n (lv2 := [(0, .ref p), (1, .int a1), (2, .int a2), (3, .ref (p + 8 + a1.toNatClampNeg))]) d_DM_insert_6 rfl (by decide) rfl ?_
  refine x_aload_n d_DM_insert_7 rfl rfl ?_
  refine x_gC d_DM_insert_8 (f_DM_23 rfl) (sh_DM hp) (hp_DM hp) rfl ?_
  refine x_iload_n d_DM_insert_11 rfl rfl ?_
  obtain ⟨g_12, h⟩ := x_gd h
  refine x_lI d_DM_insert_12 rfl (sa_DM_sortedCounts hp) (ha_DM_sortedCounts hp) g_12 ?_
  refine x_istore (lv2 := [(0, .ref p), (1, .int a1), (2, .int a2), (3, .ref (p + 8 + a1.toNatClampNeg)), (4, .int (m.2.1 (p + 12) a1.toNatClampNeg))]) d_DM_insert_13 (by decide) rfl ?_
  refine x_aload_n d_DM_insert_15 rfl rfl ?_
  refine x_iload_n d_DM_insert_16 rfl rfl ?_
  refine x_iload_n d_DM_insert_17 rfl rfl ?_
  obtain ⟨r18, e18, h⟩ := x_bd h
  refine x_cVi (M2 := M_DM_lowerThan) (As := [.int a1, .int a2]) (st := []) d_DM_insert_18 w_789 k_DM_lowerThan (c_DM_lowerThan hp e18) rfl (sh_DM hp) (hp_DM hp) rfl ⟨Nat.le_of_ble_eq_true rfl, Nat.le_of_ble_eq_true rfl⟩ (Nat.le_of_ble_eq_true rfl) (Nat.le_of_ble_eq_true rfl) rfl ?_
  refine x_istore (lv2 := [(0, .ref p), (1, .int a1), (2, .int a2), (3, .ref (p + 8 + a1.toNatClampNeg)), (4, .int (m.2.1 (p + 12) a1.toNatClampNeg)), (5, .int r18.1)]) d_DM_insert_21 (by decide) rfl ?_
  refine x_iload d_DM_insert_23 rfl ?_
  refine x_iload d_DM_insert_25 rfl ?_
  refine x_icmp_ge (tgt := 42) d_DM_insert_27 (by decide) (fun c_ => ?_) (fun c_ => ?_)
  · replace h := x_it h c_
    exact b_DM_insert_42 hp ⟨(sa_DM_srow hp (x_ix_lt g_5)), (ha_DM_srow hp (x_ix_lt g_5))⟩ h
  · replace h := x_ie h c_
    refine x_aload_n d_DM_insert_30 rfl rfl ?_
    refine x_iload d_DM_insert_31 rfl ?_
    obtain ⟨g_33, h⟩ := x_gd h
    refine x_lI d_DM_insert_33 rfl (sa_DM_srow hp (x_ix_lt g_5)) (ha_DM_srow hp (x_ix_lt g_5)) g_33 ?_
    refine x_iload_n d_DM_insert_34 rfl rfl ?_
    refine x_icmp_ne (tgt := 42) d_DM_insert_35 (by decide) (fun c_ => ?_) (fun c_ => ?_)
    · replace h := x_ie h c_
      exact b_DM_insert_42 hp ⟨(sa_DM_srow hp (x_ix_lt g_5)), (ha_DM_srow hp (x_ix_lt g_5))⟩ h
    · replace h := x_it h c_
      refine x_iconst (v := 1) d_DM_insert_38 (by decide) ?_
      refine x_goto (tgt := 43) d_DM_insert_39 (by decide) ?_
      exact b_DM_insert_43 hp ⟨(sa_DM_srow hp (x_ix_lt g_5)), (ha_DM_srow hp (x_ix_lt g_5))⟩ h
def B_DM_arrange_47 (p : Nat)  : Nat → Int32 → x_m → Option (x_m)
  | 0, _, _ => none
  | f_ + 1, l1, m => (if (m.1 p 1) ≤ l1 then some (x_wS m p 2 0) else (if x_ix 0 4 = true then (if x_ix l1 1000 = true then ((F_DM_lowerThan p 0 (m.2.1 (p + 2 + (0 : Int32).toNatClampNeg) l1.toNatClampNeg) m).bind fun r69 => (if x_ix r69.1 1000 = true then (B_DM_arrange_47 p f_) (l1 + 1) (x_wA r69.2 (p + 6) r69.1.toNatClampNeg l1) else none)) else none) else none))
theorem b_DM_arrange_47 {G : x_G} {ex : Bool} {r : x_m} {p : Nat} (hp : x_DM p)  : ∀ (f_ : Nat) (l1 : Int32) (m : x_m), B_DM_arrange_47 p f_ l1 m = some r → x_W G M_DM_arrange (x_rd 2) (x_Q G (x_rd 2) ex (x_pv r)) ex x_np (x_hp m) 0 0 [(0, .ref p), (1, .int l1)] [] 47 := by
  intro f_
  induction f_ with
  | zero => intro l1 m h; exact nomatch h
  | succ f_ ih =>
    intro l1 m h
    rw [B_DM_arrange_47] at h
    have hK47 := ih
    refine x_iload_n d_DM_arrange_47 rfl rfl ?_
    refine x_aload_n d_DM_arrange_48 rfl rfl ?_
    refine x_gI d_DM_arrange_49 (f_DM_38 rfl) (sh_DM hp) (hp_DM hp) rfl ?_
    refine x_icmp_ge (tgt := 80) d_DM_arrange_52 (by decide) (fun c_ => ?_) (fun c_ => ?_)
    · replace h := x_it h c_
      refine x_aload_n d_DM_arrange_80 rfl rfl ?_
      refine x_iconst (v := 0) d_DM_arrange_81 (by decide) ?_
      refine x_pI d_DM_arrange_82 (f_DM_48 rfl) tb_DM rfl (sh_DM hp) (hp_DM hp) rfl ⟨rfl, rfl⟩ ?_
      cases h
      exact x_rv d_DM_arrange_85 rfl
    · replace h := x_ie h c_
      refine x_aload_n d_DM_arrange_55 rfl rfl ?_
      refine x_gC d_DM_arrange_56 (f_DM_16 rfl) (sh_DM hp) (hp_DM hp) rfl ?_
      refine x_aload_n d_DM_arrange_59 rfl rfl ?_
      refine x_iconst (v := 0) d_DM_arrange_60 (by decide) ?_
      refine x_aload_n d_DM_arrange_61 rfl rfl ?_
      refine x_gC d_DM_arrange_62 (f_DM_13 rfl) (sh_DM hp) (hp_DM hp) rfl ?_
      refine x_iconst (v := 0) d_DM_arrange_65 (by decide) ?_
      obtain ⟨g_66, h⟩ := x_gd h
      refine x_lA (b := p + 2 + (0 : Int32).toNatClampNeg) d_DM_arrange_66 rfl (sa_DM_values hp) (ha_DM_values hp) g_66 (if_pos (x_ix_lt g_66)) ?_
      refine x_iload_n d_DM_arrange_67 rfl rfl ?_
      obtain ⟨g_68, h⟩ := x_gd h
      refine x_lI d_DM_arrange_68 rfl (sa_DM_vrow hp (x_ix_lt g_66)) (ha_DM_vrow hp (x_ix_lt g_66)) g_68 ?_
      obtain ⟨r69, e69, h⟩ := x_bd h
      refine x_cVi (M2 := M_DM_lowerThan) (As := [.int 0, .int (m.2.1 (p + 2 + (0 : Int32).toNatClampNeg) l1.toNatClampNeg)]) (st := [.ref (p + 6)]) d_DM_arrange_69 w_789 k_DM_lowerThan (c_DM_lowerThan hp e69) rfl (sh_DM hp) (hp_DM hp) rfl ⟨Nat.le_of_ble_eq_true rfl, Nat.le_of_ble_eq_true rfl⟩ (Nat.le_of_ble_eq_true rfl) (Nat.le_of_ble_eq_true rfl) rfl ?_
      refine x_iload_n d_DM_arrange_72 rfl rfl ?_
      obtain ⟨g_73, h⟩ := x_gd h
      refine x_sI d_DM_arrange_73 rfl (sa_DM_rows hp) (ha_DM_rows hp) g_73 ?_
      refine x_iinc (v := l1 + 1) (lv2 := [(0, .ref p), (1, .int (l1 + 1))]) d_DM_arrange_74 rfl rfl (by decide) rfl ?_
      refine x_goto (tgt := 47) d_DM_arrange_77 (by decide) ?_
      exact hK47 _ _ h
def B_DM_arrange_12 (p : Nat) (K2 : Int32 → x_m → Option (x_m)) : Nat → Int32 → Int32 → x_m → Option (x_m)
  | 0, _, _, _ => none
  | f_ + 1, l1, l2, m => (if (m.1 p 1) ≤ l2 then K2 (l1 + 1) m else (if x_ix l1 4 = true then (if x_ix l2 1000 = true then ((F_DM_insert p l1 (m.2.1 (p + 2 + l1.toNatClampNeg) l2.toNatClampNeg) m).bind fun r30 => (B_DM_arrange_12 p K2 f_) l1 (l2 + 1) r30) else none) else none))
theorem b_DM_arrange_12 {G : x_G} {ex : Bool} {r : x_m} {p : Nat} (hp : x_DM p) {K2 : Int32 → x_m → Option (x_m)} (hK2 : ∀ (l1 : Int32) (m : x_m), K2 l1 m = some r → x_W G M_DM_arrange (x_rd 2) (x_Q G (x_rd 2) ex (x_pv r)) ex x_np (x_hp m) 0 0 [(0, .ref p), (1, .int l1)] [] 2) : ∀ (f_ : Nat) (l1 : Int32) (l2 : Int32) (m : x_m), B_DM_arrange_12 p K2 f_ l1 l2 m = some r → x_W G M_DM_arrange (x_rd 2) (x_Q G (x_rd 2) ex (x_pv r)) ex x_np (x_hp m) 0 0 [(0, .ref p), (1, .int l1), (2, .int l2)] [] 12 := by
  intro f_
  induction f_ with
  | zero => intro l1 l2 m h; exact nomatch h
  | succ f_ ih =>
    intro l1 l2 m h
    rw [B_DM_arrange_12] at h
    have hK12 := ih
    refine x_iload_n d_DM_arrange_12 rfl rfl ?_
    refine x_aload_n d_DM_arrange_13 rfl rfl ?_
    refine x_gI d_DM_arrange_14 (f_DM_38 rfl) (sh_DM hp) (hp_DM hp) rfl ?_
    refine x_icmp_ge (tgt := 39) d_DM_arrange_17 (by decide) (fun c_ => ?_) (fun c_ => ?_)
    · replace h := x_it h c_
      refine x_iinc (v := l1 + 1) (lv2 := [(0, .ref p), (1, .int (l1 + 1)), (2, .int l2)]) d_DM_arrange_39 rfl rfl (by decide) rfl ?_
      refine x_goto (tgt := 2) d_DM_arrange_42 (by decide) ?_
      refine x_sbk [0, 1] (lv2 := [(0, .ref p), (1, .int (l1 + 1))]) rfl ?_; exact hK2 _ _ h
    · replace h := x_ie h c_
      refine x_aload_n d_DM_arrange_20 rfl rfl ?_
      refine x_iload_n d_DM_arrange_21 rfl rfl ?_
      refine x_aload_n d_DM_arrange_22 rfl rfl ?_
      refine x_gC d_DM_arrange_23 (f_DM_13 rfl) (sh_DM hp) (hp_DM hp) rfl ?_
      refine x_iload_n d_DM_arrange_26 rfl rfl ?_
      obtain ⟨g_27, h⟩ := x_gd h
      refine x_lA (b := p + 2 + l1.toNatClampNeg) d_DM_arrange_27 rfl (sa_DM_values hp) (ha_DM_values hp) g_27 (if_pos (x_ix_lt g_27)) ?_
      refine x_iload_n d_DM_arrange_28 rfl rfl ?_
      obtain ⟨g_29, h⟩ := x_gd h
      refine x_lI d_DM_arrange_29 rfl (sa_DM_vrow hp (x_ix_lt g_27)) (ha_DM_vrow hp (x_ix_lt g_27)) g_29 ?_
      obtain ⟨r30, e30, h⟩ := x_bd h
      refine x_cVv (M2 := M_DM_insert) (As := [.int l1, .int (m.2.1 (p + 2 + l1.toNatClampNeg) l2.toNatClampNeg)]) (st := []) d_DM_arrange_30 w_785 k_DM_insert (c_DM_insert hp e30) rfl (sh_DM hp) (hp_DM hp) rfl ⟨Nat.le_of_ble_eq_true rfl, Nat.le_of_ble_eq_true rfl⟩ (Nat.le_of_ble_eq_true rfl) (Nat.le_of_ble_eq_true rfl) rfl ?_
      refine x_iinc (v := l2 + 1) (lv2 := [(0, .ref p), (1, .int l1), (2, .int (l2 + 1))]) d_DM_arrange_33 rfl rfl (by decide) rfl ?_
      refine x_goto (tgt := 12) d_DM_arrange_36 (by decide) ?_
      exact hK12 _ _ _ h
def B_DM_arrange_2 (p : Nat)  : Nat → Int32 → x_m → Option (x_m)
  | 0, _, _ => none
  | f_ + 1, l1, m => (if (m.1 p 0) ≤ l1 then B_DM_arrange_47 p x_fu 0 m else B_DM_arrange_12 p (B_DM_arrange_2 p f_) x_fu l1 0 m)
theorem b_DM_arrange_2 {G : x_G} {ex : Bool} {r : x_m} {p : Nat} (hp : x_DM p)  : ∀ (f_ : Nat) (l1 : Int32) (m : x_m), B_DM_arrange_2 p f_ l1 m = some r → x_W G M_DM_arrange (x_rd 2) (x_Q G (x_rd 2) ex (x_pv r)) ex x_np (x_hp m) 0 0 [(0, .ref p), (1, .int l1)] [] 2 := by
  intro f_
  induction f_ with
  | zero => intro l1 m h; exact nomatch h
  | succ f_ ih =>
    intro l1 m h
    rw [B_DM_arrange_2] at h
    have hK2 := ih
    refine x_iload_n d_DM_arrange_2 rfl rfl ?_
    refine x_aload_n d_DM_arrange_3 rfl rfl ?_
    refine x_gI d_DM_arrange_4 (f_DM_26 rfl) (sh_DM hp) (hp_DM hp) rfl ?_
    refine x_icmp_ge (tgt := 45) d_DM_arrange_7 (by decide) (fun c_ => ?_) (fun c_ => ?_)
    · replace h := x_it h c_
      refine x_iconst (v := 0) d_DM_arrange_45 (by decide) ?_
      refine x_istore_n (lv2 := [(0, .ref p), (1, .int 0)]) d_DM_arrange_46 rfl (by decide) rfl ?_
      exact b_DM_arrange_47 hp _ _ _ h
    · replace h := x_ie h c_
      refine x_iconst (v := 0) d_DM_arrange_10 (by decide) ?_
      refine x_istore_n (lv2 := [(0, .ref p), (1, .int l1), (2, .int 0)]) d_DM_arrange_11 rfl (by decide) rfl ?_
      exact b_DM_arrange_12 hp hK2 _ _ _ _ h
def F_DM_arrange (p : Nat)  (m : x_m) : Option (x_m) := B_DM_arrange_2 p x_fu 0 m
theorem c_DM_arrange {G : x_G} {ex : Bool} {r : x_m} {p : Nat} (hp : x_DM p)  {m : x_m} (h : F_DM_arrange p m = some r) : x_R G M_DM_arrange (x_rd 2) ex [.ref p] x_np (x_hp m) (x_pv r) := by
  unfold F_DM_arrange at h
  show x_W G M_DM_arrange (x_rd 2) (x_Q G (x_rd 2) ex (x_pv r)) ex x_np (x_hp m) 0 0 [(0, .ref p)] [] 0
  refine x_iconst (v := 0) d_DM_arrange_0 (by decide) ?_
  refine x_istore_n (lv2 := [(0, .ref p), (1, .int 0)]) d_DM_arrange_1 rfl (by decide) rfl ?_
  exact b_DM_arrange_2 hp _ _ _ h
def B_CT_becomeOpen_55   : Nat → Int32 → x_m → Option (Int32 × x_m)
  | 0, _, _ => none
  | f_ + 1, l1, m => (if (m.1 4 2) ≤ l1 then some (1, x_wS m 4 4 1) else (if x_ix l1 8 = true then ((F_DM_arrange (9 + 13 * l1.toNatClampNeg) m).bind fun r69 => (B_CT_becomeOpen_55 f_) (l1 + 1) r69) else none))
theorem b_CT_becomeOpen_55 {G : x_G} {ex : Bool} {r : Int32 × x_m}   : ∀ (f_ : Nat) (l1 : Int32) (m : x_m), B_CT_becomeOpen_55 f_ l1 m = some r → x_W G M_CT_becomeOpen (x_rd 3) (x_Q G (x_rd 3) ex (x_pi r)) ex x_np (x_hp m) 0 0 [(0, .ref 4), (1, .int l1)] [] 55 := by
  intro f_
  induction f_ with
  | zero => intro l1 m h; exact nomatch h
  | succ f_ ih =>
    intro l1 m h
    rw [B_CT_becomeOpen_55] at h
    have hK55 := ih
    refine x_iload_n d_CT_becomeOpen_55 rfl rfl ?_
    refine x_aload_n d_CT_becomeOpen_56 rfl rfl ?_
    refine x_gI d_CT_becomeOpen_57 (f_CT_25 rfl) sh_CT hp_CT rfl ?_
    refine x_icmp_ge (tgt := 78) d_CT_becomeOpen_60 (by decide) (fun c_ => ?_) (fun c_ => ?_)
    · replace h := x_it h c_
      refine x_aload_n d_CT_becomeOpen_78 rfl rfl ?_
      refine x_iconst (v := 1) d_CT_becomeOpen_79 (by decide) ?_
      refine x_pI d_CT_becomeOpen_80 (f_CT_57 rfl) tb_CT rfl sh_CT hp_CT rfl ⟨rfl, rfl⟩ ?_
      refine x_iconst (v := 1) d_CT_becomeOpen_83 (by decide) ?_
      cases h
      exact x_ri d_CT_becomeOpen_84 rfl rfl
    · replace h := x_ie h c_
      refine x_aload_n d_CT_becomeOpen_63 rfl rfl ?_
      refine x_gC d_CT_becomeOpen_64 (f_CT_20 rfl) sh_CT hp_CT rfl ?_
      refine x_iload_n d_CT_becomeOpen_67 rfl rfl ?_
      obtain ⟨g_68, h⟩ := x_gd h
      refine x_lR (b := 9 + 13 * l1.toNatClampNeg) d_CT_becomeOpen_68 rfl sa_CT_dimensions ha_CT_dimensions g_68 (if_pos (x_ix_lt g_68)) ?_
      obtain ⟨r69, e69, h⟩ := x_bd h
      refine x_cVv (M2 := M_DM_arrange) (As := []) (st := []) d_CT_becomeOpen_69 w_781 k_DM_arrange (c_DM_arrange (x_DM_of (x_ix_lt g_68)) e69) rfl (sh_DM (x_DM_of (x_ix_lt g_68))) (hp_DM (x_DM_of (x_ix_lt g_68))) rfl ⟨Nat.le_of_ble_eq_true rfl, Nat.le_of_ble_eq_true rfl⟩ (Nat.le_of_ble_eq_true rfl) (Nat.le_of_ble_eq_true rfl) rfl ?_
      refine x_iinc (v := l1 + 1) (lv2 := [(0, .ref 4), (1, .int (l1 + 1))]) d_CT_becomeOpen_72 rfl rfl (by decide) rfl ?_
      refine x_goto (tgt := 55) d_CT_becomeOpen_75 (by decide) ?_
      exact hK55 _ _ h
def B_CT_becomeOpen_25   : Nat → Int32 → x_m → Option (Int32 × x_m)
  | 0, _, _ => none
  | f_ + 1, l1, m => (if (m.1 4 2) ≤ l1 then B_CT_becomeOpen_55 x_fu 0 m else (if x_ix l1 8 = true then (if (m.1 (9 + 13 * l1.toNatClampNeg) 1) = 0 then some (0, m) else (B_CT_becomeOpen_25 f_) (l1 + 1) m) else none))
theorem b_CT_becomeOpen_25 {G : x_G} {ex : Bool} {r : Int32 × x_m}   : ∀ (f_ : Nat) (l1 : Int32) (m : x_m), B_CT_becomeOpen_25 f_ l1 m = some r → x_W G M_CT_becomeOpen (x_rd 3) (x_Q G (x_rd 3) ex (x_pi r)) ex x_np (x_hp m) 0 0 [(0, .ref 4), (1, .int l1)] [] 25 := by
  intro f_
  induction f_ with
  | zero => intro l1 m h; exact nomatch h
  | succ f_ ih =>
    intro l1 m h
    rw [B_CT_becomeOpen_25] at h
    have hK25 := ih
    refine x_iload_n d_CT_becomeOpen_25 rfl rfl ?_
    refine x_aload_n d_CT_becomeOpen_26 rfl rfl ?_
    refine x_gI d_CT_becomeOpen_27 (f_CT_25 rfl) sh_CT hp_CT rfl ?_
    refine x_icmp_ge (tgt := 53) d_CT_becomeOpen_30 (by decide) (fun c_ => ?_) (fun c_ => ?_)
    · replace h := x_it h c_
      refine x_iconst (v := 0) d_CT_becomeOpen_53 (by decide) ?_
      refine x_istore_n (lv2 := [(0, .ref 4), (1, .int 0)]) d_CT_becomeOpen_54 rfl (by decide) rfl ?_
      exact b_CT_becomeOpen_55 _ _ _ h
    · replace h := x_ie h c_
      refine x_aload_n d_CT_becomeOpen_33 rfl rfl ?_
      refine x_gC d_CT_becomeOpen_34 (f_CT_20 rfl) sh_CT hp_CT rfl ?_
      refine x_iload_n d_CT_becomeOpen_37 rfl rfl ?_
      obtain ⟨g_38, h⟩ := x_gd h
      refine x_lR (b := 9 + 13 * l1.toNatClampNeg) d_CT_becomeOpen_38 rfl sa_CT_dimensions ha_CT_dimensions g_38 (if_pos (x_ix_lt g_38)) ?_
      refine x_gI d_CT_becomeOpen_39 (f_CT_36 rfl) (sh_DM (x_DM_of (x_ix_lt g_38))) (hp_DM (x_DM_of (x_ix_lt g_38))) rfl ?_
      refine x_if_ne (tgt := 47) d_CT_becomeOpen_42 (by decide) (fun c_ => ?_) (fun c_ => ?_)
      · replace h := x_ie h c_
        refine x_iinc (v := l1 + 1) (lv2 := [(0, .ref 4), (1, .int (l1 + 1))]) d_CT_becomeOpen_47 rfl rfl (by decide) rfl ?_
        refine x_goto (tgt := 25) d_CT_becomeOpen_50 (by decide) ?_
        exact hK25 _ _ h
      · replace h := x_it h c_
        refine x_iconst (v := 0) d_CT_becomeOpen_45 (by decide) ?_
        cases h
        exact x_ri d_CT_becomeOpen_46 rfl rfl
def B_CT_becomeOpen_21    (m : x_m) : Option (Int32 × x_m) := some (0, m)
theorem b_CT_becomeOpen_21 {G : x_G} {ex : Bool} {r : Int32 × x_m}    {m : x_m} (h : B_CT_becomeOpen_21 m = some r) : x_W G M_CT_becomeOpen (x_rd 3) (x_Q G (x_rd 3) ex (x_pi r)) ex x_np (x_hp m) 0 0 [] [] 21 := by
  unfold B_CT_becomeOpen_21 at h
  refine x_iconst (v := 0) d_CT_becomeOpen_21 (by decide) ?_
  cases h
  exact x_ri d_CT_becomeOpen_22 rfl rfl
def F_CT_becomeOpen   (m : x_m) : Option (Int32 × x_m) := (if (m.1 4 4) = 0 then (if (m.1 4 2) = 0 then B_CT_becomeOpen_21 m else (if (m.1 4 3) = 0 then B_CT_becomeOpen_21 m else B_CT_becomeOpen_25 x_fu 0 m)) else B_CT_becomeOpen_21 m)
theorem c_CT_becomeOpen {G : x_G} {ex : Bool} {r : Int32 × x_m}   {m : x_m} (h : F_CT_becomeOpen m = some r) : x_R G M_CT_becomeOpen (x_rd 3) ex [.ref 4] x_np (x_hp m) (x_pi r) := by
  unfold F_CT_becomeOpen at h
  show x_W G M_CT_becomeOpen (x_rd 3) (x_Q G (x_rd 3) ex (x_pi r)) ex x_np (x_hp m) 0 0 [(0, .ref 4)] [] 0
  refine x_aload_n d_CT_becomeOpen_0 rfl rfl ?_
  refine x_gI d_CT_becomeOpen_1 (f_CT_57 rfl) sh_CT hp_CT rfl ?_
  refine x_if_ne (tgt := 21) d_CT_becomeOpen_4 (by decide) (fun c_ => ?_) (fun c_ => ?_)
  · replace h := x_ie h c_
    refine x_sbk [] (lv2 := []) rfl ?_; exact b_CT_becomeOpen_21 h
  · replace h := x_it h c_
    refine x_aload_n d_CT_becomeOpen_7 rfl rfl ?_
    refine x_gI d_CT_becomeOpen_8 (f_CT_25 rfl) sh_CT hp_CT rfl ?_
    refine x_if_eq (tgt := 21) d_CT_becomeOpen_11 (by decide) (fun c_ => ?_) (fun c_ => ?_)
    · replace h := x_it h c_
      refine x_sbk [] (lv2 := []) rfl ?_; exact b_CT_becomeOpen_21 h
    · replace h := x_ie h c_
      refine x_aload_n d_CT_becomeOpen_14 rfl rfl ?_
      refine x_gI d_CT_becomeOpen_15 (f_CT_50 rfl) sh_CT hp_CT rfl ?_
      refine x_if_ne (tgt := 23) d_CT_becomeOpen_18 (by decide) (fun c_ => ?_) (fun c_ => ?_)
      · replace h := x_ie h c_
        refine x_iconst (v := 0) d_CT_becomeOpen_23 (by decide) ?_
        refine x_istore_n (lv2 := [(0, .ref 4), (1, .int 0)]) d_CT_becomeOpen_24 rfl (by decide) rfl ?_
        exact b_CT_becomeOpen_25 _ _ _ h
      · replace h := x_it h c_
        refine x_sbk [] (lv2 := []) rfl ?_; exact b_CT_becomeOpen_21 h
def F_QR_open   (m : x_m) : Option (Int32 × x_m) := ((F_CT_becomeOpen m).bind fun r4 => (if x_b1 r4.1 = true then some (r4.1, r4.2) else none))
theorem c_QR_open {G : x_G} {ex : Bool} {r : Int32 × x_m}   {m : x_m} (h : F_QR_open m = some r) : x_R G M_QR_open (x_rd 4) ex [.ref 0] x_np (x_hp m) (x_pi r) := by
  unfold F_QR_open at h
  show x_W G M_QR_open (x_rd 4) (x_Q G (x_rd 4) ex (x_pi r)) ex x_np (x_hp m) 0 0 [(0, .ref 0)] [] 0
  refine x_aload_n d_QR_open_0 rfl rfl ?_
  refine x_gC d_QR_open_1 (f_QR_28 rfl) sh_QR hp_QR rfl ?_
  obtain ⟨r4, e4, h⟩ := x_bd h
  refine x_cVi (M2 := M_CT_becomeOpen) (As := []) (st := []) d_QR_open_4 w_777 k_CT_becomeOpen (c_CT_becomeOpen e4) rfl sh_CT hp_CT rfl ⟨Nat.le_of_ble_eq_true rfl, Nat.le_of_ble_eq_true rfl⟩ (Nat.le_of_ble_eq_true rfl) (Nat.le_of_ble_eq_true rfl) rfl ?_
  obtain ⟨g_7, h⟩ := x_gd h
  cases h
  exact x_ri d_QR_open_7 rfl (x_b1_ok g_7).1
def B_TX_addFour_45    (m : x_m) : Option (x_m) := some m
theorem b_TX_addFour_45 {G : x_G} {ex : Bool} {r : x_m}    {m : x_m} (h : B_TX_addFour_45 m = some r) : x_W G M_TX_addFour (x_rd 0) (x_Q G (x_rd 0) ex (x_pv r)) ex x_np (x_hp m) 0 0 [] [] 45 := by
  unfold B_TX_addFour_45 at h
  cases h
  exact x_rv d_TX_addFour_45 rfl
def B_TX_addFour_3   : Nat → Int32 → Int32 → x_m → Option (x_m)
  | 0, _, _, _ => none
  | f_ + 1, l1, l2, m => (if l2 < 0 then B_TX_addFour_45 m else (if 65536 ≤ (m.1 1 1) then B_TX_addFour_45 m else (if x_ix (m.1 1 1) 65536 = true then (B_TX_addFour_3 f_) l1 (l2 + (-8)) (x_wS (x_wA m 2 (m.1 1 1).toNatClampNeg (vp_nar .byte (((l1.toUInt32 >>> (l2.toUInt32 &&& Int32.toUInt32 31)).toInt32).toInt8.toInt32))) 1 1 (((x_wA m 2 (m.1 1 1).toNatClampNeg (vp_nar .byte (((l1.toUInt32 >>> (l2.toUInt32 &&& Int32.toUInt32 31)).toInt32).toInt8.toInt32))).1 1 1) + 1)) else none)))
theorem b_TX_addFour_3 {G : x_G} {ex : Bool} {r : x_m}   : ∀ (f_ : Nat) (l1 : Int32) (l2 : Int32) (m : x_m), B_TX_addFour_3 f_ l1 l2 m = some r → x_W G M_TX_addFour (x_rd 0) (x_Q G (x_rd 0) ex (x_pv r)) ex x_np (x_hp m) 0 0 [(0, .ref 1), (1, .int l1), (2, .int l2)] [] 3 := by
  intro f_
  induction f_ with
  | zero => intro l1 l2 m h; exact nomatch h
  | succ f_ ih =>
    intro l1 l2 m h
    rw [B_TX_addFour_3] at h
    have hK3 := ih
    refine x_iload_n d_TX_addFour_3 rfl rfl ?_
    refine x_if_lt (tgt := 45) d_TX_addFour_4 (by decide) (fun c_ => ?_) (fun c_ => ?_)
    · replace h := x_it h c_
      refine x_sbk [] (lv2 := []) rfl ?_; exact b_TX_addFour_45 h
    · replace h := x_ie h c_
      refine x_aload_n d_TX_addFour_7 rfl rfl ?_
      refine x_gI d_TX_addFour_8 (f_TX_14 rfl) sh_TX hp_TX rfl ?_
      refine x_ldc (v := 65536) d_TX_addFour_11 w_40 ?_
      refine x_icmp_ge (tgt := 45) d_TX_addFour_13 (by decide) (fun c_ => ?_) (fun c_ => ?_)
      · replace h := x_it h c_
        refine x_sbk [] (lv2 := []) rfl ?_; exact b_TX_addFour_45 h
      · replace h := x_ie h c_
        refine x_aload_n d_TX_addFour_16 rfl rfl ?_
        refine x_gC d_TX_addFour_17 (f_TX_10 rfl) sh_TX hp_TX rfl ?_
        refine x_aload_n d_TX_addFour_20 rfl rfl ?_
        refine x_gI d_TX_addFour_21 (f_TX_14 rfl) sh_TX hp_TX rfl ?_
        refine x_iload_n d_TX_addFour_24 rfl rfl ?_
        refine x_iload_n d_TX_addFour_25 rfl rfl ?_
        refine x_iushr d_TX_addFour_26 ?_
        refine x_i2b d_TX_addFour_27 ?_
        obtain ⟨g_28, h⟩ := x_gd h
        refine x_sB d_TX_addFour_28 rfl sa_TX_bytes ha_TX_bytes g_28 ?_
        refine x_aload_n d_TX_addFour_29 rfl rfl ?_
        refine x_dup d_TX_addFour_30 rfl ?_
        refine x_gI d_TX_addFour_31 (f_TX_14 rfl) sh_TX hp_TX rfl ?_
        refine x_iconst (v := 1) d_TX_addFour_34 (by decide) ?_
        refine x_iadd d_TX_addFour_35 ?_
        refine x_pI d_TX_addFour_36 (f_TX_14 rfl) tb_TX rfl sh_TX hp_TX rfl ⟨rfl, rfl⟩ ?_
        refine x_iinc (v := l2 + (-8)) (lv2 := [(0, .ref 1), (1, .int l1), (2, .int (l2 + (-8)))]) d_TX_addFour_39 rfl rfl (by decide) rfl ?_
        refine x_goto (tgt := 3) d_TX_addFour_42 (by decide) ?_
        exact hK3 _ _ _ h
def F_TX_addFour  (a1 : Int32) (m : x_m) : Option (x_m) := B_TX_addFour_3 x_fu a1 24 m
theorem c_TX_addFour {G : x_G} {ex : Bool} {r : x_m}  {a1 : Int32} {m : x_m} (h : F_TX_addFour a1 m = some r) : x_R G M_TX_addFour (x_rd 0) ex [.ref 1, .int a1] x_np (x_hp m) (x_pv r) := by
  unfold F_TX_addFour at h
  show x_W G M_TX_addFour (x_rd 0) (x_Q G (x_rd 0) ex (x_pv r)) ex x_np (x_hp m) 0 0 [(0, .ref 1), (1, .int a1)] [] 0
  refine x_bipush (v := 24) d_TX_addFour_0 (by decide) ?_
  refine x_istore_n (lv2 := [(0, .ref 1), (1, .int a1), (2, .int 24)]) d_TX_addFour_2 rfl (by decide) rfl ?_
  exact b_TX_addFour_3 _ _ _ _ h
def B_CT_hasDimension_17   (s0 : Int32) (m : x_m) : Option (Int32 × x_m) := (if x_b1 s0 = true then some (s0, m) else none)
theorem b_CT_hasDimension_17 {G : x_G} {ex : Bool} {r : Int32 × x_m}   {s0 : Int32} {m : x_m} (h : B_CT_hasDimension_17 s0 m = some r) : x_W G M_CT_hasDimension (x_rd 0) (x_Q G (x_rd 0) ex (x_pi r)) ex x_np (x_hp m) 0 0 [] [.int s0] 17 := by
  unfold B_CT_hasDimension_17 at h
  obtain ⟨g_17, h⟩ := x_gd h
  cases h
  exact x_ri d_CT_hasDimension_17 rfl (x_b1_ok g_17).1
def B_CT_hasDimension_16    (m : x_m) : Option (Int32 × x_m) := B_CT_hasDimension_17 0 m
theorem b_CT_hasDimension_16 {G : x_G} {ex : Bool} {r : Int32 × x_m}    {m : x_m} (h : B_CT_hasDimension_16 m = some r) : x_W G M_CT_hasDimension (x_rd 0) (x_Q G (x_rd 0) ex (x_pi r)) ex x_np (x_hp m) 0 0 [] [] 16 := by
  unfold B_CT_hasDimension_16 at h
  refine x_iconst (v := 0) d_CT_hasDimension_16 (by decide) ?_
  exact b_CT_hasDimension_17 h
def F_CT_hasDimension  (a1 : Int32) (m : x_m) : Option (Int32 × x_m) := (if a1 < 0 then B_CT_hasDimension_16 m else (if (m.1 4 2) ≤ a1 then B_CT_hasDimension_16 m else B_CT_hasDimension_17 1 m))
theorem c_CT_hasDimension {G : x_G} {ex : Bool} {r : Int32 × x_m}  {a1 : Int32} {m : x_m} (h : F_CT_hasDimension a1 m = some r) : x_R G M_CT_hasDimension (x_rd 0) ex [.ref 4, .int a1] x_np (x_hp m) (x_pi r) := by
  unfold F_CT_hasDimension at h
  show x_W G M_CT_hasDimension (x_rd 0) (x_Q G (x_rd 0) ex (x_pi r)) ex x_np (x_hp m) 0 0 [(0, .ref 4), (1, .int a1)] [] 0
  refine x_iload_n d_CT_hasDimension_0 rfl rfl ?_
  refine x_if_lt (tgt := 16) d_CT_hasDimension_1 (by decide) (fun c_ => ?_) (fun c_ => ?_)
  · replace h := x_it h c_
    refine x_sbk [] (lv2 := []) rfl ?_; exact b_CT_hasDimension_16 h
  · replace h := x_ie h c_
    refine x_iload_n d_CT_hasDimension_4 rfl rfl ?_
    refine x_aload_n d_CT_hasDimension_5 rfl rfl ?_
    refine x_gI d_CT_hasDimension_6 (f_CT_25 rfl) sh_CT hp_CT rfl ?_
    refine x_icmp_ge (tgt := 16) d_CT_hasDimension_9 (by decide) (fun c_ => ?_) (fun c_ => ?_)
    · replace h := x_it h c_
      refine x_sbk [] (lv2 := []) rfl ?_; exact b_CT_hasDimension_16 h
    · replace h := x_ie h c_
      refine x_iconst (v := 1) d_CT_hasDimension_12 (by decide) ?_
      refine x_goto (tgt := 17) d_CT_hasDimension_13 (by decide) ?_
      refine x_sbk [] (lv2 := []) rfl ?_; exact b_CT_hasDimension_17 h
def B_CT_hasLevel_30   (s0 : Int32) (m : x_m) : Option (Int32 × x_m) := (if x_b1 s0 = true then some (s0, m) else none)
theorem b_CT_hasLevel_30 {G : x_G} {ex : Bool} {r : Int32 × x_m}   {s0 : Int32} {m : x_m} (h : B_CT_hasLevel_30 s0 m = some r) : x_W G M_CT_hasLevel (x_rd 1) (x_Q G (x_rd 1) ex (x_pi r)) ex x_np (x_hp m) 0 0 [] [.int s0] 30 := by
  unfold B_CT_hasLevel_30 at h
  obtain ⟨g_30, h⟩ := x_gd h
  cases h
  exact x_ri d_CT_hasLevel_30 rfl (x_b1_ok g_30).1
def B_CT_hasLevel_29    (m : x_m) : Option (Int32 × x_m) := B_CT_hasLevel_30 0 m
theorem b_CT_hasLevel_29 {G : x_G} {ex : Bool} {r : Int32 × x_m}    {m : x_m} (h : B_CT_hasLevel_29 m = some r) : x_W G M_CT_hasLevel (x_rd 1) (x_Q G (x_rd 1) ex (x_pi r)) ex x_np (x_hp m) 0 0 [] [] 29 := by
  unfold B_CT_hasLevel_29 at h
  refine x_iconst (v := 0) d_CT_hasLevel_29 (by decide) ?_
  exact b_CT_hasLevel_30 h
def F_CT_hasLevel  (a1 : Int32) (a2 : Int32) (m : x_m) : Option (Int32 × x_m) := ((F_CT_hasDimension a1 m).bind fun r2 => (if r2.1 = 0 then B_CT_hasLevel_29 r2.2 else (if a2 < 0 then B_CT_hasLevel_29 r2.2 else (if x_ix a1 8 = true then (if (r2.2.1 (9 + 13 * a1.toNatClampNeg) 0) ≤ a2 then B_CT_hasLevel_29 r2.2 else B_CT_hasLevel_30 1 r2.2) else none))))
theorem c_CT_hasLevel {G : x_G} {ex : Bool} {r : Int32 × x_m}  {a1 : Int32} {a2 : Int32} {m : x_m} (h : F_CT_hasLevel a1 a2 m = some r) : x_R G M_CT_hasLevel (x_rd 1) ex [.ref 4, .int a1, .int a2] x_np (x_hp m) (x_pi r) := by
  unfold F_CT_hasLevel at h
  show x_W G M_CT_hasLevel (x_rd 1) (x_Q G (x_rd 1) ex (x_pi r)) ex x_np (x_hp m) 0 0 [(0, .ref 4), (1, .int a1), (2, .int a2)] [] 0
  refine x_aload_n d_CT_hasLevel_0 rfl rfl ?_
  refine x_iload_n d_CT_hasLevel_1 rfl rfl ?_
  obtain ⟨r2, e2, h⟩ := x_bd h
  refine x_cVi (M2 := M_CT_hasDimension) (As := [.int a1]) (st := []) d_CT_hasLevel_2 w_937 k_CT_hasDimension (c_CT_hasDimension e2) rfl sh_CT hp_CT rfl ⟨Nat.le_of_ble_eq_true rfl, Nat.le_of_ble_eq_true rfl⟩ (Nat.le_of_ble_eq_true rfl) (Nat.le_of_ble_eq_true rfl) rfl ?_
  refine x_if_eq (tgt := 29) d_CT_hasLevel_5 (by decide) (fun c_ => ?_) (fun c_ => ?_)
  · replace h := x_it h c_
    refine x_sbk [] (lv2 := []) rfl ?_; exact b_CT_hasLevel_29 h
  · replace h := x_ie h c_
    refine x_iload_n d_CT_hasLevel_8 rfl rfl ?_
    refine x_if_lt (tgt := 29) d_CT_hasLevel_9 (by decide) (fun c_ => ?_) (fun c_ => ?_)
    · replace h := x_it h c_
      refine x_sbk [] (lv2 := []) rfl ?_; exact b_CT_hasLevel_29 h
    · replace h := x_ie h c_
      refine x_iload_n d_CT_hasLevel_12 rfl rfl ?_
      refine x_aload_n d_CT_hasLevel_13 rfl rfl ?_
      refine x_gC d_CT_hasLevel_14 (f_CT_20 rfl) sh_CT hp_CT rfl ?_
      refine x_iload_n d_CT_hasLevel_17 rfl rfl ?_
      obtain ⟨g_18, h⟩ := x_gd h
      refine x_lR (b := 9 + 13 * a1.toNatClampNeg) d_CT_hasLevel_18 rfl sa_CT_dimensions ha_CT_dimensions g_18 (if_pos (x_ix_lt g_18)) ?_
      refine x_gI d_CT_hasLevel_19 (f_CT_33 rfl) (sh_DM (x_DM_of (x_ix_lt g_18))) (hp_DM (x_DM_of (x_ix_lt g_18))) rfl ?_
      refine x_icmp_ge (tgt := 29) d_CT_hasLevel_22 (by decide) (fun c_ => ?_) (fun c_ => ?_)
      · replace h := x_it h c_
        refine x_sbk [] (lv2 := []) rfl ?_; exact b_CT_hasLevel_29 h
      · replace h := x_ie h c_
        refine x_iconst (v := 1) d_CT_hasLevel_25 (by decide) ?_
        refine x_goto (tgt := 30) d_CT_hasLevel_26 (by decide) ?_
        refine x_sbk [] (lv2 := []) rfl ?_; exact b_CT_hasLevel_30 h
def B_CT_hasMember_30   (s0 : Int32) (m : x_m) : Option (Int32 × x_m) := (if x_b1 s0 = true then some (s0, m) else none)
theorem b_CT_hasMember_30 {G : x_G} {ex : Bool} {r : Int32 × x_m}   {s0 : Int32} {m : x_m} (h : B_CT_hasMember_30 s0 m = some r) : x_W G M_CT_hasMember (x_rd 1) (x_Q G (x_rd 1) ex (x_pi r)) ex x_np (x_hp m) 0 0 [] [.int s0] 30 := by
  unfold B_CT_hasMember_30 at h
  obtain ⟨g_30, h⟩ := x_gd h
  cases h
  exact x_ri d_CT_hasMember_30 rfl (x_b1_ok g_30).1
def B_CT_hasMember_29    (m : x_m) : Option (Int32 × x_m) := B_CT_hasMember_30 0 m
theorem b_CT_hasMember_29 {G : x_G} {ex : Bool} {r : Int32 × x_m}    {m : x_m} (h : B_CT_hasMember_29 m = some r) : x_W G M_CT_hasMember (x_rd 1) (x_Q G (x_rd 1) ex (x_pi r)) ex x_np (x_hp m) 0 0 [] [] 29 := by
  unfold B_CT_hasMember_29 at h
  refine x_iconst (v := 0) d_CT_hasMember_29 (by decide) ?_
  exact b_CT_hasMember_30 h
def F_CT_hasMember  (a1 : Int32) (a2 : Int32) (m : x_m) : Option (Int32 × x_m) := ((F_CT_hasDimension a1 m).bind fun r2 => (if r2.1 = 0 then B_CT_hasMember_29 r2.2 else (if a2 < 0 then B_CT_hasMember_29 r2.2 else (if x_ix a1 8 = true then (if (r2.2.1 (9 + 13 * a1.toNatClampNeg) 1) ≤ a2 then B_CT_hasMember_29 r2.2 else B_CT_hasMember_30 1 r2.2) else none))))
theorem c_CT_hasMember {G : x_G} {ex : Bool} {r : Int32 × x_m}  {a1 : Int32} {a2 : Int32} {m : x_m} (h : F_CT_hasMember a1 a2 m = some r) : x_R G M_CT_hasMember (x_rd 1) ex [.ref 4, .int a1, .int a2] x_np (x_hp m) (x_pi r) := by
  unfold F_CT_hasMember at h
  show x_W G M_CT_hasMember (x_rd 1) (x_Q G (x_rd 1) ex (x_pi r)) ex x_np (x_hp m) 0 0 [(0, .ref 4), (1, .int a1), (2, .int a2)] [] 0
  refine x_aload_n d_CT_hasMember_0 rfl rfl ?_
  refine x_iload_n d_CT_hasMember_1 rfl rfl ?_
  obtain ⟨r2, e2, h⟩ := x_bd h
  refine x_cVi (M2 := M_CT_hasDimension) (As := [.int a1]) (st := []) d_CT_hasMember_2 w_937 k_CT_hasDimension (c_CT_hasDimension e2) rfl sh_CT hp_CT rfl ⟨Nat.le_of_ble_eq_true rfl, Nat.le_of_ble_eq_true rfl⟩ (Nat.le_of_ble_eq_true rfl) (Nat.le_of_ble_eq_true rfl) rfl ?_
  refine x_if_eq (tgt := 29) d_CT_hasMember_5 (by decide) (fun c_ => ?_) (fun c_ => ?_)
  · replace h := x_it h c_
    refine x_sbk [] (lv2 := []) rfl ?_; exact b_CT_hasMember_29 h
  · replace h := x_ie h c_
    refine x_iload_n d_CT_hasMember_8 rfl rfl ?_
    refine x_if_lt (tgt := 29) d_CT_hasMember_9 (by decide) (fun c_ => ?_) (fun c_ => ?_)
    · replace h := x_it h c_
      refine x_sbk [] (lv2 := []) rfl ?_; exact b_CT_hasMember_29 h
    · replace h := x_ie h c_
      refine x_iload_n d_CT_hasMember_12 rfl rfl ?_
      refine x_aload_n d_CT_hasMember_13 rfl rfl ?_
      refine x_gC d_CT_hasMember_14 (f_CT_20 rfl) sh_CT hp_CT rfl ?_
      refine x_iload_n d_CT_hasMember_17 rfl rfl ?_
      obtain ⟨g_18, h⟩ := x_gd h
      refine x_lR (b := 9 + 13 * a1.toNatClampNeg) d_CT_hasMember_18 rfl sa_CT_dimensions ha_CT_dimensions g_18 (if_pos (x_ix_lt g_18)) ?_
      refine x_gI d_CT_hasMember_19 (f_CT_36 rfl) (sh_DM (x_DM_of (x_ix_lt g_18))) (hp_DM (x_DM_of (x_ix_lt g_18))) rfl ?_
      refine x_icmp_ge (tgt := 29) d_CT_hasMember_22 (by decide) (fun c_ => ?_) (fun c_ => ?_)
      · replace h := x_it h c_
        refine x_sbk [] (lv2 := []) rfl ?_; exact b_CT_hasMember_29 h
      · replace h := x_ie h c_
        refine x_iconst (v := 1) d_CT_hasMember_25 (by decide) ?_
        refine x_goto (tgt := 30) d_CT_hasMember_26 (by decide) ?_
        refine x_sbk [] (lv2 := []) rfl ?_; exact b_CT_hasMember_30 h
def F_DM_valueAt (p : Nat) (a1 : Int32) (a2 : Int32) (m : x_m) : Option (Int32 × x_m) := (if x_ix a1 4 = true then (if x_ix a2 1000 = true then (if x_ix (m.2.1 (p + 6) a2.toNatClampNeg) 1000 = true then some (m.2.1 (p + 2 + a1.toNatClampNeg) (m.2.1 (p + 6) a2.toNatClampNeg).toNatClampNeg, m) else none) else none) else none)
theorem c_DM_valueAt {G : x_G} {ex : Bool} {r : Int32 × x_m} {p : Nat} (hp : x_DM p) {a1 : Int32} {a2 : Int32} {m : x_m} (h : F_DM_valueAt p a1 a2 m = some r) : x_R G M_DM_valueAt (x_rd 0) ex [.ref p, .int a1, .int a2] x_np (x_hp m) (x_pi r) := by
  unfold F_DM_valueAt at h
  show x_W G M_DM_valueAt (x_rd 0) (x_Q G (x_rd 0) ex (x_pi r)) ex x_np (x_hp m) 0 0 [(0, .ref p), (1, .int a1), (2, .int a2)] [] 0
  refine x_aload_n d_DM_valueAt_0 rfl rfl ?_
  refine x_gC d_DM_valueAt_1 (f_DM_13 rfl) (sh_DM hp) (hp_DM hp) rfl ?_
  refine x_iload_n d_DM_valueAt_4 rfl rfl ?_
  obtain ⟨g_5, h⟩ := x_gd h
  refine x_lA (b := p + 2 + a1.toNatClampNeg) d_DM_valueAt_5 rfl (sa_DM_values hp) (ha_DM_values hp) g_5 (if_pos (x_ix_lt g_5)) ?_
  refine x_aload_n d_DM_valueAt_6 rfl rfl ?_
  refine x_gC d_DM_valueAt_7 (f_DM_16 rfl) (sh_DM hp) (hp_DM hp) rfl ?_
  refine x_iload_n d_DM_valueAt_10 rfl rfl ?_
  obtain ⟨g_11, h⟩ := x_gd h
  refine x_lI d_DM_valueAt_11 rfl (sa_DM_rows hp) (ha_DM_rows hp) g_11 ?_
  obtain ⟨g_12, h⟩ := x_gd h
  refine x_lI d_DM_valueAt_12 rfl (sa_DM_vrow hp (x_ix_lt g_5)) (ha_DM_vrow hp (x_ix_lt g_5)) g_12 ?_
  cases h
  exact x_ri d_DM_valueAt_13 rfl rfl
def F_DM_distinctAt (p : Nat) (a1 : Int32) (m : x_m) : Option (Int32 × x_m) := (if x_ix a1 4 = true then some (m.2.1 (p + 12) a1.toNatClampNeg, m) else none)
theorem c_DM_distinctAt {G : x_G} {ex : Bool} {r : Int32 × x_m} {p : Nat} (hp : x_DM p) {a1 : Int32} {m : x_m} (h : F_DM_distinctAt p a1 m = some r) : x_R G M_DM_distinctAt (x_rd 0) ex [.ref p, .int a1] x_np (x_hp m) (x_pi r) := by
  unfold F_DM_distinctAt at h
  show x_W G M_DM_distinctAt (x_rd 0) (x_Q G (x_rd 0) ex (x_pi r)) ex x_np (x_hp m) 0 0 [(0, .ref p), (1, .int a1)] [] 0
  refine x_aload_n d_DM_distinctAt_0 rfl rfl ?_
  refine x_gC d_DM_distinctAt_1 (f_DM_23 rfl) (sh_DM hp) (hp_DM hp) rfl ?_
  refine x_iload_n d_DM_distinctAt_4 rfl rfl ?_
  obtain ⟨g_5, h⟩ := x_gd h
  refine x_lI d_DM_distinctAt_5 rfl (sa_DM_sortedCounts hp) (ha_DM_sortedCounts hp) g_5 ?_
  cases h
  exact x_ri d_DM_distinctAt_6 rfl rfl
def B_DM_placeOf_34 (p : Nat)  (s0 : Int32) (m : x_m) : Option (Int32 × x_m) := some (s0, m)
theorem b_DM_placeOf_34 {G : x_G} {ex : Bool} {r : Int32 × x_m} {p : Nat} (hp : x_DM p)  {s0 : Int32} {m : x_m} (h : B_DM_placeOf_34 p s0 m = some r) : x_W G M_DM_placeOf (x_rd 1) (x_Q G (x_rd 1) ex (x_pi r)) ex x_np (x_hp m) 0 0 [] [.int s0] 34 := by
  unfold B_DM_placeOf_34 at h
  cases h
  exact x_ri d_DM_placeOf_34 rfl rfl
def B_DM_placeOf_33 (p : Nat)   (m : x_m) : Option (Int32 × x_m) := B_DM_placeOf_34 p ((-1)) m
theorem b_DM_placeOf_33 {G : x_G} {ex : Bool} {r : Int32 × x_m} {p : Nat} (hp : x_DM p)   {m : x_m} (h : B_DM_placeOf_33 p m = some r) : x_W G M_DM_placeOf (x_rd 1) (x_Q G (x_rd 1) ex (x_pi r)) ex x_np (x_hp m) 0 0 [] [] 33 := by
  unfold B_DM_placeOf_33 at h
  refine x_iconst (v := (-1)) d_DM_placeOf_33 (by decide) ?_
  exact b_DM_placeOf_34 hp h
def F_DM_placeOf (p : Nat) (a1 : Int32) (m : x_m) : Option (Int32 × x_m) := ((F_DM_lowerThan p 0 a1 m).bind fun r3 => (if x_ix 0 4 = true then (if (r3.2.2.1 (p + 12) (0 : Int32).toNatClampNeg) ≤ r3.1 then B_DM_placeOf_33 p r3.2 else (if x_ix 0 4 = true then (if x_ix r3.1 1000 = true then (if (r3.2.2.1 (p + 8 + (0 : Int32).toNatClampNeg) r3.1.toNatClampNeg) = a1 then B_DM_placeOf_34 p r3.1 r3.2 else B_DM_placeOf_33 p r3.2) else none) else none)) else none))
theorem c_DM_placeOf {G : x_G} {ex : Bool} {r : Int32 × x_m} {p : Nat} (hp : x_DM p) {a1 : Int32} {m : x_m} (h : F_DM_placeOf p a1 m = some r) : x_R G M_DM_placeOf (x_rd 1) ex [.ref p, .int a1] x_np (x_hp m) (x_pi r) := by
  unfold F_DM_placeOf at h
  show x_W G M_DM_placeOf (x_rd 1) (x_Q G (x_rd 1) ex (x_pi r)) ex x_np (x_hp m) 0 0 [(0, .ref p), (1, .int a1)] [] 0
  refine x_aload_n d_DM_placeOf_0 rfl rfl ?_
  refine x_iconst (v := 0) d_DM_placeOf_1 (by decide) ?_
  refine x_iload_n d_DM_placeOf_2 rfl rfl ?_
  obtain ⟨r3, e3, h⟩ := x_bd h
  refine x_cVi (M2 := M_DM_lowerThan) (As := [.int 0, .int a1]) (st := []) d_DM_placeOf_3 w_789 k_DM_lowerThan (c_DM_lowerThan hp e3) rfl (sh_DM hp) (hp_DM hp) rfl ⟨Nat.le_of_ble_eq_true rfl, Nat.le_of_ble_eq_true rfl⟩ (Nat.le_of_ble_eq_true rfl) (Nat.le_of_ble_eq_true rfl) rfl ?_
  refine x_istore_n (lv2 := [(0, .ref p), (1, .int a1), (2, .int r3.1)]) d_DM_placeOf_6 rfl (by decide) rfl ?_
  refine x_iload_n d_DM_placeOf_7 rfl rfl ?_
  refine x_aload_n d_DM_placeOf_8 rfl rfl ?_
  refine x_gC d_DM_placeOf_9 (f_DM_23 rfl) (sh_DM hp) (hp_DM hp) rfl ?_
  refine x_iconst (v := 0) d_DM_placeOf_12 (by decide) ?_
  obtain ⟨g_13, h⟩ := x_gd h
  refine x_lI d_DM_placeOf_13 rfl (sa_DM_sortedCounts hp) (ha_DM_sortedCounts hp) g_13 ?_
  refine x_icmp_ge (tgt := 33) d_DM_placeOf_14 (by decide) (fun c_ => ?_) (fun c_ => ?_)
  · replace h := x_it h c_
    refine x_sbk [] (lv2 := []) rfl ?_; exact b_DM_placeOf_33 hp h
  · replace h := x_ie h c_
    refine x_aload_n d_DM_placeOf_17 rfl rfl ?_
    refine x_gC d_DM_placeOf_18 (f_DM_20 rfl) (sh_DM hp) (hp_DM hp) rfl ?_
    refine x_iconst (v := 0) d_DM_placeOf_21 (by decide) ?_
    obtain ⟨g_22, h⟩ := x_gd h
    refine x_lA (b := p + 8 + (0 : Int32).toNatClampNeg) d_DM_placeOf_22 rfl (sa_DM_sorted hp) (ha_DM_sorted hp) g_22 (if_pos (x_ix_lt g_22)) ?_
    refine x_iload_n d_DM_placeOf_23 rfl rfl ?_
    obtain ⟨g_24, h⟩ := x_gd h
    refine x_lI d_DM_placeOf_24 rfl (sa_DM_srow hp (x_ix_lt g_22)) (ha_DM_srow hp (x_ix_lt g_22)) g_24 ?_
    refine x_iload_n d_DM_placeOf_25 rfl rfl ?_
    refine x_icmp_ne (tgt := 33) d_DM_placeOf_26 (by decide) (fun c_ => ?_) (fun c_ => ?_)
    · replace h := x_ie h c_
      refine x_sbk [] (lv2 := []) rfl ?_; exact b_DM_placeOf_33 hp h
    · replace h := x_it h c_
      refine x_iload_n d_DM_placeOf_29 rfl rfl ?_
      refine x_goto (tgt := 34) d_DM_placeOf_30 (by decide) ?_
      refine x_sbk [] (lv2 := []) rfl ?_; exact b_DM_placeOf_34 hp h
def F_CT_dimensionOf  (a0 : Int32) (m : x_m) : Option (Int32 × x_m) := some (a0 / 4, m)
theorem c_CT_dimensionOf {G : x_G} {ex : Bool} {r : Int32 × x_m}  {a0 : Int32} {m : x_m} (h : F_CT_dimensionOf a0 m = some r) : x_R G M_CT_dimensionOf (x_rd 0) ex [.int a0] x_np (x_hp m) (x_pi r) := by
  unfold F_CT_dimensionOf at h
  show x_W G M_CT_dimensionOf (x_rd 0) (x_Q G (x_rd 0) ex (x_pi r)) ex x_np (x_hp m) 0 0 [(0, .int a0)] [] 0
  refine x_iload_n d_CT_dimensionOf_0 rfl rfl ?_
  refine x_iconst (v := 4) d_CT_dimensionOf_1 (by decide) ?_
  refine x_idiv d_CT_dimensionOf_2 (by decide) ?_
  cases h
  exact x_ri d_CT_dimensionOf_3 rfl rfl
def F_CT_levelOf  (a0 : Int32) (m : x_m) : Option (Int32 × x_m) := some (a0 - a0 / 4 * 4, m)
theorem c_CT_levelOf {G : x_G} {ex : Bool} {r : Int32 × x_m}  {a0 : Int32} {m : x_m} (h : F_CT_levelOf a0 m = some r) : x_R G M_CT_levelOf (x_rd 0) ex [.int a0] x_np (x_hp m) (x_pi r) := by
  unfold F_CT_levelOf at h
  show x_W G M_CT_levelOf (x_rd 0) (x_Q G (x_rd 0) ex (x_pi r)) ex x_np (x_hp m) 0 0 [(0, .int a0)] [] 0
  refine x_iload_n d_CT_levelOf_0 rfl rfl ?_
  refine x_iconst (v := 4) d_CT_levelOf_1 (by decide) ?_
  refine x_irem d_CT_levelOf_2 (by decide) ?_
  cases h
  exact x_ri d_CT_levelOf_3 rfl rfl
def B_CT_hasName_52   (s0 : Int32) (m : x_m) : Option (Int32 × x_m) := (if x_b1 s0 = true then some (s0, m) else none)
theorem b_CT_hasName_52 {G : x_G} {ex : Bool} {r : Int32 × x_m}   {s0 : Int32} {m : x_m} (h : B_CT_hasName_52 s0 m = some r) : x_W G M_CT_hasName (x_rd 2) (x_Q G (x_rd 2) ex (x_pi r)) ex x_np (x_hp m) 0 0 [] [.int s0] 52 := by
  unfold B_CT_hasName_52 at h
  obtain ⟨g_52, h⟩ := x_gd h
  cases h
  exact x_ri d_CT_hasName_52 rfl (x_b1_ok g_52).1
def F_CT_hasName  (a1 : Int32) (m : x_m) : Option (Int32 × x_m) := (if 8 ≤ a1 then (if 40 ≤ a1 then (if (m.1 4 3) ≤ (a1 - 40) then B_CT_hasName_52 0 m else B_CT_hasName_52 1 m) else ((F_CT_dimensionOf (a1 - 8) m).bind fun r25 => ((F_CT_levelOf (a1 - 8) r25.2).bind fun r29 => ((F_CT_hasLevel r25.1 r29.1 r29.2).bind fun r32 => (if x_b1 r32.1 = true then some (r32.1, r32.2) else none))))) else ((F_CT_hasDimension a1 m).bind fun r8 => (if x_b1 r8.1 = true then some (r8.1, r8.2) else none)))
theorem c_CT_hasName {G : x_G} {ex : Bool} {r : Int32 × x_m}  {a1 : Int32} {m : x_m} (h : F_CT_hasName a1 m = some r) : x_R G M_CT_hasName (x_rd 2) ex [.ref 4, .int a1] x_np (x_hp m) (x_pi r) := by
  unfold F_CT_hasName at h
  show x_W G M_CT_hasName (x_rd 2) (x_Q G (x_rd 2) ex (x_pi r)) ex x_np (x_hp m) 0 0 [(0, .ref 4), (1, .int a1)] [] 0
  refine x_iload_n d_CT_hasName_0 rfl rfl ?_
  refine x_bipush (v := 8) d_CT_hasName_1 (by decide) ?_
  refine x_icmp_ge (tgt := 12) d_CT_hasName_3 (by decide) (fun c_ => ?_) (fun c_ => ?_)
  · replace h := x_it h c_
    refine x_iload_n d_CT_hasName_12 rfl rfl ?_
    refine x_bipush (v := 40) d_CT_hasName_13 (by decide) ?_
    refine x_icmp_ge (tgt := 36) d_CT_hasName_15 (by decide) (fun c_ => ?_) (fun c_ => ?_)
    · replace h := x_it h c_
      refine x_iload_n d_CT_hasName_36 rfl rfl ?_
      refine x_bipush (v := 40) d_CT_hasName_37 (by decide) ?_
      refine x_isub d_CT_hasName_39 ?_
      refine x_aload_n d_CT_hasName_40 rfl rfl ?_
      refine x_gI d_CT_hasName_41 (f_CT_50 rfl) sh_CT hp_CT rfl ?_
      refine x_icmp_ge (tgt := 51) d_CT_hasName_44 (by decide) (fun c_ => ?_) (fun c_ => ?_)
      · replace h := x_it h c_
        refine x_iconst (v := 0) d_CT_hasName_51 (by decide) ?_
        refine x_sbk [] (lv2 := []) rfl ?_; exact b_CT_hasName_52 h
      · replace h := x_ie h c_
        refine x_iconst (v := 1) d_CT_hasName_47 (by decide) ?_
        refine x_goto (tgt := 52) d_CT_hasName_48 (by decide) ?_
        refine x_sbk [] (lv2 := []) rfl ?_; exact b_CT_hasName_52 h
    · replace h := x_ie h c_
      refine x_iload_n d_CT_hasName_18 rfl rfl ?_
      refine x_bipush (v := 8) d_CT_hasName_19 (by decide) ?_
      refine x_isub d_CT_hasName_21 ?_
      refine x_istore_n (lv2 := [(0, .ref 4), (1, .int a1), (2, .int (a1 - 8))]) d_CT_hasName_22 rfl (by decide) rfl ?_
      refine x_aload_n d_CT_hasName_23 rfl rfl ?_
      refine x_iload_n d_CT_hasName_24 rfl rfl ?_
      obtain ⟨r25, e25, h⟩ := x_bd h
      refine x_cSi (M2 := M_CT_dimensionOf) (As := [.int (a1 - 8)]) (st := [.ref 4]) d_CT_hasName_25 w_985 k_CT_dimensionOf (c_CT_dimensionOf e25) rfl ⟨Nat.le_of_ble_eq_true rfl, Nat.le_of_ble_eq_true rfl⟩ (Nat.le_of_ble_eq_true rfl) (Nat.le_of_ble_eq_true rfl) rfl ?_
      refine x_iload_n d_CT_hasName_28 rfl rfl ?_
      obtain ⟨r29, e29, h⟩ := x_bd h
      refine x_cSi (M2 := M_CT_levelOf) (As := [.int (a1 - 8)]) (st := [.int r25.1, .ref 4]) d_CT_hasName_29 w_988 k_CT_levelOf (c_CT_levelOf e29) rfl ⟨Nat.le_of_ble_eq_true rfl, Nat.le_of_ble_eq_true rfl⟩ (Nat.le_of_ble_eq_true rfl) (Nat.le_of_ble_eq_true rfl) rfl ?_
      obtain ⟨r32, e32, h⟩ := x_bd h
      refine x_cVi (M2 := M_CT_hasLevel) (As := [.int r25.1, .int r29.1]) (st := []) d_CT_hasName_32 w_991 k_CT_hasLevel (c_CT_hasLevel e32) rfl sh_CT hp_CT rfl ⟨Nat.le_of_ble_eq_true rfl, Nat.le_of_ble_eq_true rfl⟩ (Nat.le_of_ble_eq_true rfl) (Nat.le_of_ble_eq_true rfl) rfl ?_
      obtain ⟨g_35, h⟩ := x_gd h
      cases h
      exact x_ri d_CT_hasName_35 rfl (x_b1_ok g_35).1
  · replace h := x_ie h c_
    refine x_aload_n d_CT_hasName_6 rfl rfl ?_
    refine x_iload_n d_CT_hasName_7 rfl rfl ?_
    obtain ⟨r8, e8, h⟩ := x_bd h
    refine x_cVi (M2 := M_CT_hasDimension) (As := [.int a1]) (st := []) d_CT_hasName_8 w_937 k_CT_hasDimension (c_CT_hasDimension e8) rfl sh_CT hp_CT rfl ⟨Nat.le_of_ble_eq_true rfl, Nat.le_of_ble_eq_true rfl⟩ (Nat.le_of_ble_eq_true rfl) (Nat.le_of_ble_eq_true rfl) rfl ?_
    obtain ⟨g_11, h⟩ := x_gd h
    cases h
    exact x_ri d_CT_hasName_11 rfl (x_b1_ok g_11).1
