def M_CN_join : x_M := (⟨"QuestionReader$Condition", "join", "(ZII)I"⟩, prog_5_method_15_code, 5, some (.int), [])
theorem d_CN_join_0 : decode M_CN_join.2.1 0 = .ok (.iload_n 2, 1) := by decide +kernel
theorem d_CN_join_1 : decode M_CN_join.2.1 1 = .ok (.iconst (-1), 1) := by decide +kernel
theorem d_CN_join_2 : decode M_CN_join.2.1 2 = .ok (.if_icmp .eq 12, 3) := by decide +kernel
theorem d_CN_join_5 : decode M_CN_join.2.1 5 = .ok (.aload_n 0, 1) := by decide +kernel
theorem d_CN_join_6 : decode M_CN_join.2.1 6 = .ok (.getfield 48, 3) := by decide +kernel
theorem d_CN_join_9 : decode M_CN_join.2.1 9 = .ok (.bipush 59, 2) := by decide +kernel
theorem d_CN_join_11 : decode M_CN_join.2.1 11 = .ok (.if_icmp .lt 5, 3) := by decide +kernel
theorem d_CN_join_14 : decode M_CN_join.2.1 14 = .ok (.iload_n 3, 1) := by decide +kernel
theorem d_CN_join_15 : decode M_CN_join.2.1 15 = .ok (.ireturn, 1) := by decide +kernel
theorem d_CN_join_16 : decode M_CN_join.2.1 16 = .ok (.bipush 60, 2) := by decide +kernel
theorem d_CN_join_18 : decode M_CN_join.2.1 18 = .ok (.aload_n 0, 1) := by decide +kernel
theorem d_CN_join_19 : decode M_CN_join.2.1 19 = .ok (.getfield 48, 3) := by decide +kernel
theorem d_CN_join_22 : decode M_CN_join.2.1 22 = .ok (.iadd, 1) := by decide +kernel
theorem d_CN_join_23 : decode M_CN_join.2.1 23 = .ok (.istore 4, 2) := by decide +kernel
theorem d_CN_join_25 : decode M_CN_join.2.1 25 = .ok (.aload_n 0, 1) := by decide +kernel
theorem d_CN_join_26 : decode M_CN_join.2.1 26 = .ok (.getfield 17, 3) := by decide +kernel
theorem d_CN_join_29 : decode M_CN_join.2.1 29 = .ok (.aload_n 0, 1) := by decide +kernel
theorem d_CN_join_30 : decode M_CN_join.2.1 30 = .ok (.getfield 48, 3) := by decide +kernel
theorem d_CN_join_33 : decode M_CN_join.2.1 33 = .ok (.iload_n 2, 1) := by decide +kernel
theorem d_CN_join_34 : decode M_CN_join.2.1 34 = .ok (.iastore, 1) := by decide +kernel
theorem d_CN_join_35 : decode M_CN_join.2.1 35 = .ok (.aload_n 0, 1) := by decide +kernel
theorem d_CN_join_36 : decode M_CN_join.2.1 36 = .ok (.getfield 21, 3) := by decide +kernel
theorem d_CN_join_39 : decode M_CN_join.2.1 39 = .ok (.aload_n 0, 1) := by decide +kernel
theorem d_CN_join_40 : decode M_CN_join.2.1 40 = .ok (.getfield 48, 3) := by decide +kernel
theorem d_CN_join_43 : decode M_CN_join.2.1 43 = .ok (.iload_n 3, 1) := by decide +kernel
theorem d_CN_join_44 : decode M_CN_join.2.1 44 = .ok (.iastore, 1) := by decide +kernel
theorem d_CN_join_45 : decode M_CN_join.2.1 45 = .ok (.aload_n 0, 1) := by decide +kernel
theorem d_CN_join_46 : decode M_CN_join.2.1 46 = .ok (.getfield 24, 3) := by decide +kernel
theorem d_CN_join_49 : decode M_CN_join.2.1 49 = .ok (.aload_n 0, 1) := by decide +kernel
theorem d_CN_join_50 : decode M_CN_join.2.1 50 = .ok (.getfield 48, 3) := by decide +kernel
theorem d_CN_join_53 : decode M_CN_join.2.1 53 = .ok (.iload_n 1, 1) := by decide +kernel
theorem d_CN_join_54 : decode M_CN_join.2.1 54 = .ok (.bastore, 1) := by decide +kernel
theorem d_CN_join_55 : decode M_CN_join.2.1 55 = .ok (.aload_n 0, 1) := by decide +kernel
theorem d_CN_join_56 : decode M_CN_join.2.1 56 = .ok (.getfield 28, 3) := by decide +kernel
theorem d_CN_join_59 : decode M_CN_join.2.1 59 = .ok (.iload 4, 2) := by decide +kernel
theorem d_CN_join_61 : decode M_CN_join.2.1 61 = .ok (.iconst 0, 1) := by decide +kernel
theorem d_CN_join_62 : decode M_CN_join.2.1 62 = .ok (.bastore, 1) := by decide +kernel
theorem d_CN_join_63 : decode M_CN_join.2.1 63 = .ok (.aload_n 0, 1) := by decide +kernel
theorem d_CN_join_64 : decode M_CN_join.2.1 64 = .ok (.dup, 1) := by decide +kernel
theorem d_CN_join_65 : decode M_CN_join.2.1 65 = .ok (.getfield 48, 3) := by decide +kernel
theorem d_CN_join_68 : decode M_CN_join.2.1 68 = .ok (.iconst 1, 1) := by decide +kernel
theorem d_CN_join_69 : decode M_CN_join.2.1 69 = .ok (.iadd, 1) := by decide +kernel
theorem d_CN_join_70 : decode M_CN_join.2.1 70 = .ok (.putfield 48, 3) := by decide +kernel
theorem d_CN_join_73 : decode M_CN_join.2.1 73 = .ok (.iload 4, 2) := by decide +kernel
theorem d_CN_join_75 : decode M_CN_join.2.1 75 = .ok (.ireturn, 1) := by decide +kernel
theorem k_CN_join : x_kV M_CN_join "QuestionReader$Condition" 3 := ⟨⟨by decide, Or.inl ⟨w_622, rfl⟩⟩, w_621, ws_17, ⟨by decide, by decide⟩, by decide +kernel⟩
def M_CN_attach : x_M := (⟨"QuestionReader$Condition", "attach", "(I)V"⟩, prog_5_method_13_code, 2, none, [])
theorem d_CN_attach_0 : decode M_CN_attach.2.1 0 = .ok (.aload_n 0, 1) := by decide +kernel
theorem d_CN_attach_1 : decode M_CN_attach.2.1 1 = .ok (.getfield 40, 3) := by decide +kernel
theorem d_CN_attach_4 : decode M_CN_attach.2.1 4 = .ok (.aload_n 0, 1) := by decide +kernel
theorem d_CN_attach_5 : decode M_CN_attach.2.1 5 = .ok (.getfield 51, 3) := by decide +kernel
theorem d_CN_attach_8 : decode M_CN_attach.2.1 8 = .ok (.baload, 1) := by decide +kernel
theorem d_CN_attach_9 : decode M_CN_attach.2.1 9 = .ok (.ifCond .eq 33, 3) := by decide +kernel
theorem d_CN_attach_12 : decode M_CN_attach.2.1 12 = .ok (.aload_n 0, 1) := by decide +kernel
theorem d_CN_attach_13 : decode M_CN_attach.2.1 13 = .ok (.getfield 28, 3) := by decide +kernel
theorem d_CN_attach_16 : decode M_CN_attach.2.1 16 = .ok (.iload_n 1, 1) := by decide +kernel
theorem d_CN_attach_17 : decode M_CN_attach.2.1 17 = .ok (.aload_n 0, 1) := by decide +kernel
theorem d_CN_attach_18 : decode M_CN_attach.2.1 18 = .ok (.getfield 28, 3) := by decide +kernel
theorem d_CN_attach_21 : decode M_CN_attach.2.1 21 = .ok (.iload_n 1, 1) := by decide +kernel
theorem d_CN_attach_22 : decode M_CN_attach.2.1 22 = .ok (.baload, 1) := by decide +kernel
theorem d_CN_attach_23 : decode M_CN_attach.2.1 23 = .ok (.ifCond .ne 7, 3) := by decide +kernel
theorem d_CN_attach_26 : decode M_CN_attach.2.1 26 = .ok (.iconst 1, 1) := by decide +kernel
theorem d_CN_attach_27 : decode M_CN_attach.2.1 27 = .ok (.goto 4, 3) := by decide +kernel
theorem d_CN_attach_30 : decode M_CN_attach.2.1 30 = .ok (.iconst 0, 1) := by decide +kernel
theorem d_CN_attach_31 : decode M_CN_attach.2.1 31 = .ok (.bastore, 1) := by decide +kernel
theorem d_CN_attach_32 : decode M_CN_attach.2.1 32 = .ok (.aload_n 0, 1) := by decide +kernel
theorem d_CN_attach_33 : decode M_CN_attach.2.1 33 = .ok (.getfield 40, 3) := by decide +kernel
theorem d_CN_attach_36 : decode M_CN_attach.2.1 36 = .ok (.aload_n 0, 1) := by decide +kernel
theorem d_CN_attach_37 : decode M_CN_attach.2.1 37 = .ok (.getfield 51, 3) := by decide +kernel
theorem d_CN_attach_40 : decode M_CN_attach.2.1 40 = .ok (.iconst 0, 1) := by decide +kernel
theorem d_CN_attach_41 : decode M_CN_attach.2.1 41 = .ok (.bastore, 1) := by decide +kernel
theorem d_CN_attach_42 : decode M_CN_attach.2.1 42 = .ok (.aload_n 0, 1) := by decide +kernel
theorem d_CN_attach_43 : decode M_CN_attach.2.1 43 = .ok (.getfield 37, 3) := by decide +kernel
theorem d_CN_attach_46 : decode M_CN_attach.2.1 46 = .ok (.aload_n 0, 1) := by decide +kernel
theorem d_CN_attach_47 : decode M_CN_attach.2.1 47 = .ok (.getfield 51, 3) := by decide +kernel
theorem d_CN_attach_50 : decode M_CN_attach.2.1 50 = .ok (.aload_n 0, 1) := by decide +kernel
theorem d_CN_attach_51 : decode M_CN_attach.2.1 51 = .ok (.iconst 1, 1) := by decide +kernel
theorem d_CN_attach_52 : decode M_CN_attach.2.1 52 = .ok (.aload_n 0, 1) := by decide +kernel
theorem d_CN_attach_53 : decode M_CN_attach.2.1 53 = .ok (.getfield 37, 3) := by decide +kernel
theorem d_CN_attach_56 : decode M_CN_attach.2.1 56 = .ok (.aload_n 0, 1) := by decide +kernel
theorem d_CN_attach_57 : decode M_CN_attach.2.1 57 = .ok (.getfield 51, 3) := by decide +kernel
theorem d_CN_attach_60 : decode M_CN_attach.2.1 60 = .ok (.iaload, 1) := by decide +kernel
theorem d_CN_attach_61 : decode M_CN_attach.2.1 61 = .ok (.iload_n 1, 1) := by decide +kernel
theorem d_CN_attach_62 : decode M_CN_attach.2.1 62 = .ok (.invokevirtual 78, 3) := by decide +kernel
theorem d_CN_attach_65 : decode M_CN_attach.2.1 65 = .ok (.iastore, 1) := by decide +kernel
theorem d_CN_attach_66 : decode M_CN_attach.2.1 66 = .ok (.return_, 1) := by decide +kernel
theorem k_CN_attach : x_kV M_CN_attach "QuestionReader$Condition" 1 := ⟨⟨by decide, Or.inl ⟨w_618, rfl⟩⟩, w_617, ws_16, ⟨by decide, by decide⟩, by decide +kernel⟩
def M_CN_addComing : x_M := (⟨"QuestionReader$Condition", "addComing", "()V"⟩, prog_5_method_5_code, 2, none, [])
theorem d_CN_addComing_0 : decode M_CN_addComing.2.1 0 = .ok (.aload_n 0, 1) := by decide +kernel
theorem d_CN_addComing_1 : decode M_CN_addComing.2.1 1 = .ok (.getfield 44, 3) := by decide +kernel
theorem d_CN_addComing_4 : decode M_CN_addComing.2.1 4 = .ok (.istore_n 1, 1) := by decide +kernel
theorem d_CN_addComing_5 : decode M_CN_addComing.2.1 5 = .ok (.aload_n 0, 1) := by decide +kernel
theorem d_CN_addComing_6 : decode M_CN_addComing.2.1 6 = .ok (.getfield 28, 3) := by decide +kernel
theorem d_CN_addComing_9 : decode M_CN_addComing.2.1 9 = .ok (.iload_n 1, 1) := by decide +kernel
theorem d_CN_addComing_10 : decode M_CN_addComing.2.1 10 = .ok (.iconst 0, 1) := by decide +kernel
theorem d_CN_addComing_11 : decode M_CN_addComing.2.1 11 = .ok (.bastore, 1) := by decide +kernel
theorem d_CN_addComing_12 : decode M_CN_addComing.2.1 12 = .ok (.aload_n 0, 1) := by decide +kernel
theorem d_CN_addComing_13 : decode M_CN_addComing.2.1 13 = .ok (.dup, 1) := by decide +kernel
theorem d_CN_addComing_14 : decode M_CN_addComing.2.1 14 = .ok (.getfield 44, 3) := by decide +kernel
theorem d_CN_addComing_17 : decode M_CN_addComing.2.1 17 = .ok (.iconst 1, 1) := by decide +kernel
theorem d_CN_addComing_18 : decode M_CN_addComing.2.1 18 = .ok (.iadd, 1) := by decide +kernel
theorem d_CN_addComing_19 : decode M_CN_addComing.2.1 19 = .ok (.putfield 44, 3) := by decide +kernel
theorem d_CN_addComing_22 : decode M_CN_addComing.2.1 22 = .ok (.aload_n 0, 1) := by decide +kernel
theorem d_CN_addComing_23 : decode M_CN_addComing.2.1 23 = .ok (.iload_n 1, 1) := by decide +kernel
theorem d_CN_addComing_24 : decode M_CN_addComing.2.1 24 = .ok (.invokevirtual 57, 3) := by decide +kernel
theorem d_CN_addComing_27 : decode M_CN_addComing.2.1 27 = .ok (.return_, 1) := by decide +kernel
theorem k_CN_addComing : x_kV M_CN_addComing "QuestionReader$Condition" 0 := ⟨⟨by decide, Or.inl ⟨w_614, rfl⟩⟩, w_612, w_613, ⟨by decide, by decide⟩, by decide +kernel⟩
def M_CN_endLine : x_M := (⟨"QuestionReader$Condition", "endLine", "()I"⟩, prog_5_method_14_code, 1, some (.int), [])
theorem d_CN_endLine_0 : decode M_CN_endLine.2.1 0 = .ok (.aload_n 0, 1) := by decide +kernel
theorem d_CN_endLine_1 : decode M_CN_endLine.2.1 1 = .ok (.iconst 0, 1) := by decide +kernel
theorem d_CN_endLine_2 : decode M_CN_endLine.2.1 2 = .ok (.aload_n 0, 1) := by decide +kernel
theorem d_CN_endLine_3 : decode M_CN_endLine.2.1 3 = .ok (.getfield 34, 3) := by decide +kernel
theorem d_CN_endLine_6 : decode M_CN_endLine.2.1 6 = .ok (.aload_n 0, 1) := by decide +kernel
theorem d_CN_endLine_7 : decode M_CN_endLine.2.1 7 = .ok (.getfield 51, 3) := by decide +kernel
theorem d_CN_endLine_10 : decode M_CN_endLine.2.1 10 = .ok (.iaload, 1) := by decide +kernel
theorem d_CN_endLine_11 : decode M_CN_endLine.2.1 11 = .ok (.aload_n 0, 1) := by decide +kernel
theorem d_CN_endLine_12 : decode M_CN_endLine.2.1 12 = .ok (.getfield 37, 3) := by decide +kernel
theorem d_CN_endLine_15 : decode M_CN_endLine.2.1 15 = .ok (.aload_n 0, 1) := by decide +kernel
theorem d_CN_endLine_16 : decode M_CN_endLine.2.1 16 = .ok (.getfield 51, 3) := by decide +kernel
theorem d_CN_endLine_19 : decode M_CN_endLine.2.1 19 = .ok (.iaload, 1) := by decide +kernel
theorem d_CN_endLine_20 : decode M_CN_endLine.2.1 20 = .ok (.invokevirtual 78, 3) := by decide +kernel
theorem d_CN_endLine_23 : decode M_CN_endLine.2.1 23 = .ok (.ireturn, 1) := by decide +kernel
theorem k_CN_endLine : x_kV M_CN_endLine "QuestionReader$Condition" 0 := ⟨⟨by decide, Or.inl ⟨w_634, rfl⟩⟩, w_633, ws_19, ⟨by decide, by decide⟩, by decide +kernel⟩
def M_CN_finish : x_M := (⟨"QuestionReader$Condition", "finish", "()V"⟩, prog_5_method_10_code, 1, none, [])
theorem d_CN_finish_0 : decode M_CN_finish.2.1 0 = .ok (.aload_n 0, 1) := by decide +kernel
theorem d_CN_finish_1 : decode M_CN_finish.2.1 1 = .ok (.invokevirtual 61, 3) := by decide +kernel
theorem d_CN_finish_4 : decode M_CN_finish.2.1 4 = .ok (.pop, 1) := by decide +kernel
theorem d_CN_finish_5 : decode M_CN_finish.2.1 5 = .ok (.return_, 1) := by decide +kernel
theorem k_CN_finish : x_kV M_CN_finish "QuestionReader$Condition" 0 := ⟨⟨by decide, Or.inl ⟨w_644, rfl⟩⟩, w_642, w_643, ⟨by decide, by decide⟩, by decide +kernel⟩
def M_CN_negateNext : x_M := (⟨"QuestionReader$Condition", "negateNext", "()V"⟩, prog_5_method_6_code, 1, none, [])
theorem d_CN_negateNext_0 : decode M_CN_negateNext.2.1 0 = .ok (.aload_n 0, 1) := by decide +kernel
theorem d_CN_negateNext_1 : decode M_CN_negateNext.2.1 1 = .ok (.getfield 40, 3) := by decide +kernel
theorem d_CN_negateNext_4 : decode M_CN_negateNext.2.1 4 = .ok (.aload_n 0, 1) := by decide +kernel
theorem d_CN_negateNext_5 : decode M_CN_negateNext.2.1 5 = .ok (.getfield 51, 3) := by decide +kernel
theorem d_CN_negateNext_8 : decode M_CN_negateNext.2.1 8 = .ok (.aload_n 0, 1) := by decide +kernel
theorem d_CN_negateNext_9 : decode M_CN_negateNext.2.1 9 = .ok (.getfield 40, 3) := by decide +kernel
theorem d_CN_negateNext_12 : decode M_CN_negateNext.2.1 12 = .ok (.aload_n 0, 1) := by decide +kernel
theorem d_CN_negateNext_13 : decode M_CN_negateNext.2.1 13 = .ok (.getfield 51, 3) := by decide +kernel
theorem d_CN_negateNext_16 : decode M_CN_negateNext.2.1 16 = .ok (.baload, 1) := by decide +kernel
theorem d_CN_negateNext_17 : decode M_CN_negateNext.2.1 17 = .ok (.ifCond .ne 7, 3) := by decide +kernel
theorem d_CN_negateNext_20 : decode M_CN_negateNext.2.1 20 = .ok (.iconst 1, 1) := by decide +kernel
theorem d_CN_negateNext_21 : decode M_CN_negateNext.2.1 21 = .ok (.goto 4, 3) := by decide +kernel
theorem d_CN_negateNext_24 : decode M_CN_negateNext.2.1 24 = .ok (.iconst 0, 1) := by decide +kernel
theorem d_CN_negateNext_25 : decode M_CN_negateNext.2.1 25 = .ok (.bastore, 1) := by decide +kernel
theorem d_CN_negateNext_26 : decode M_CN_negateNext.2.1 26 = .ok (.return_, 1) := by decide +kernel
theorem k_CN_negateNext : x_kV M_CN_negateNext "QuestionReader$Condition" 0 := ⟨⟨by decide, Or.inl ⟨w_533, rfl⟩⟩, w_531, w_532, ⟨by decide, by decide⟩, by decide +kernel⟩
def M_CN_clearLine : x_M := (⟨"QuestionReader$Condition", "clearLine", "()V"⟩, prog_5_method_12_code, 1, none, [])
theorem d_CN_clearLine_0 : decode M_CN_clearLine.2.1 0 = .ok (.aload_n 0, 1) := by decide +kernel
theorem d_CN_clearLine_1 : decode M_CN_clearLine.2.1 1 = .ok (.getfield 34, 3) := by decide +kernel
theorem d_CN_clearLine_4 : decode M_CN_clearLine.2.1 4 = .ok (.aload_n 0, 1) := by decide +kernel
theorem d_CN_clearLine_5 : decode M_CN_clearLine.2.1 5 = .ok (.getfield 51, 3) := by decide +kernel
theorem d_CN_clearLine_8 : decode M_CN_clearLine.2.1 8 = .ok (.iconst (-1), 1) := by decide +kernel
theorem d_CN_clearLine_9 : decode M_CN_clearLine.2.1 9 = .ok (.iastore, 1) := by decide +kernel
theorem d_CN_clearLine_10 : decode M_CN_clearLine.2.1 10 = .ok (.aload_n 0, 1) := by decide +kernel
theorem d_CN_clearLine_11 : decode M_CN_clearLine.2.1 11 = .ok (.getfield 37, 3) := by decide +kernel
theorem d_CN_clearLine_14 : decode M_CN_clearLine.2.1 14 = .ok (.aload_n 0, 1) := by decide +kernel
theorem d_CN_clearLine_15 : decode M_CN_clearLine.2.1 15 = .ok (.getfield 51, 3) := by decide +kernel
theorem d_CN_clearLine_18 : decode M_CN_clearLine.2.1 18 = .ok (.iconst (-1), 1) := by decide +kernel
theorem d_CN_clearLine_19 : decode M_CN_clearLine.2.1 19 = .ok (.iastore, 1) := by decide +kernel
theorem d_CN_clearLine_20 : decode M_CN_clearLine.2.1 20 = .ok (.aload_n 0, 1) := by decide +kernel
theorem d_CN_clearLine_21 : decode M_CN_clearLine.2.1 21 = .ok (.getfield 40, 3) := by decide +kernel
theorem d_CN_clearLine_24 : decode M_CN_clearLine.2.1 24 = .ok (.aload_n 0, 1) := by decide +kernel
theorem d_CN_clearLine_25 : decode M_CN_clearLine.2.1 25 = .ok (.getfield 51, 3) := by decide +kernel
theorem d_CN_clearLine_28 : decode M_CN_clearLine.2.1 28 = .ok (.iconst 0, 1) := by decide +kernel
theorem d_CN_clearLine_29 : decode M_CN_clearLine.2.1 29 = .ok (.bastore, 1) := by decide +kernel
theorem d_CN_clearLine_30 : decode M_CN_clearLine.2.1 30 = .ok (.return_, 1) := by decide +kernel
theorem k_CN_clearLine : x_kV M_CN_clearLine "QuestionReader$Condition" 0 := ⟨⟨by decide, Or.inl ⟨w_385, rfl⟩⟩, w_384, ws_0, ⟨by decide, by decide⟩, by decide +kernel⟩
def M_CN_openBracket : x_M := (⟨"QuestionReader$Condition", "openBracket", "()Z"⟩, prog_5_method_7_code, 1, some (.boolean), [])
theorem d_CN_openBracket_0 : decode M_CN_openBracket.2.1 0 = .ok (.aload_n 0, 1) := by decide +kernel
theorem d_CN_openBracket_1 : decode M_CN_openBracket.2.1 1 = .ok (.getfield 51, 3) := by decide +kernel
theorem d_CN_openBracket_4 : decode M_CN_openBracket.2.1 4 = .ok (.bipush 40, 2) := by decide +kernel
theorem d_CN_openBracket_6 : decode M_CN_openBracket.2.1 6 = .ok (.if_icmp .lt 5, 3) := by decide +kernel
theorem d_CN_openBracket_9 : decode M_CN_openBracket.2.1 9 = .ok (.iconst 0, 1) := by decide +kernel
theorem d_CN_openBracket_10 : decode M_CN_openBracket.2.1 10 = .ok (.ireturn, 1) := by decide +kernel
theorem d_CN_openBracket_11 : decode M_CN_openBracket.2.1 11 = .ok (.aload_n 0, 1) := by decide +kernel
theorem d_CN_openBracket_12 : decode M_CN_openBracket.2.1 12 = .ok (.dup, 1) := by decide +kernel
theorem d_CN_openBracket_13 : decode M_CN_openBracket.2.1 13 = .ok (.getfield 51, 3) := by decide +kernel
theorem d_CN_openBracket_16 : decode M_CN_openBracket.2.1 16 = .ok (.iconst 1, 1) := by decide +kernel
theorem d_CN_openBracket_17 : decode M_CN_openBracket.2.1 17 = .ok (.iadd, 1) := by decide +kernel
theorem d_CN_openBracket_18 : decode M_CN_openBracket.2.1 18 = .ok (.putfield 51, 3) := by decide +kernel
theorem d_CN_openBracket_21 : decode M_CN_openBracket.2.1 21 = .ok (.aload_n 0, 1) := by decide +kernel
theorem d_CN_openBracket_22 : decode M_CN_openBracket.2.1 22 = .ok (.invokevirtual 54, 3) := by decide +kernel
theorem d_CN_openBracket_25 : decode M_CN_openBracket.2.1 25 = .ok (.iconst 1, 1) := by decide +kernel
theorem d_CN_openBracket_26 : decode M_CN_openBracket.2.1 26 = .ok (.ireturn, 1) := by decide +kernel
theorem k_CN_openBracket : x_kV M_CN_openBracket "QuestionReader$Condition" 0 := ⟨⟨by decide, Or.inl ⟨w_537, rfl⟩⟩, w_535, w_536, ⟨by decide, by decide⟩, by decide +kernel⟩
def M_CN_startAlternative : x_M := (⟨"QuestionReader$Condition", "startAlternative", "()V"⟩, prog_5_method_9_code, 1, none, [])
theorem d_CN_startAlternative_0 : decode M_CN_startAlternative.2.1 0 = .ok (.aload_n 0, 1) := by decide +kernel
theorem d_CN_startAlternative_1 : decode M_CN_startAlternative.2.1 1 = .ok (.getfield 34, 3) := by decide +kernel
theorem d_CN_startAlternative_4 : decode M_CN_startAlternative.2.1 4 = .ok (.aload_n 0, 1) := by decide +kernel
theorem d_CN_startAlternative_5 : decode M_CN_startAlternative.2.1 5 = .ok (.getfield 51, 3) := by decide +kernel
theorem d_CN_startAlternative_8 : decode M_CN_startAlternative.2.1 8 = .ok (.aload_n 0, 1) := by decide +kernel
theorem d_CN_startAlternative_9 : decode M_CN_startAlternative.2.1 9 = .ok (.invokevirtual 61, 3) := by decide +kernel
theorem d_CN_startAlternative_12 : decode M_CN_startAlternative.2.1 12 = .ok (.iastore, 1) := by decide +kernel
theorem d_CN_startAlternative_13 : decode M_CN_startAlternative.2.1 13 = .ok (.aload_n 0, 1) := by decide +kernel
theorem d_CN_startAlternative_14 : decode M_CN_startAlternative.2.1 14 = .ok (.getfield 37, 3) := by decide +kernel
theorem d_CN_startAlternative_17 : decode M_CN_startAlternative.2.1 17 = .ok (.aload_n 0, 1) := by decide +kernel
theorem d_CN_startAlternative_18 : decode M_CN_startAlternative.2.1 18 = .ok (.getfield 51, 3) := by decide +kernel
theorem d_CN_startAlternative_21 : decode M_CN_startAlternative.2.1 21 = .ok (.iconst (-1), 1) := by decide +kernel
theorem d_CN_startAlternative_22 : decode M_CN_startAlternative.2.1 22 = .ok (.iastore, 1) := by decide +kernel
theorem d_CN_startAlternative_23 : decode M_CN_startAlternative.2.1 23 = .ok (.return_, 1) := by decide +kernel
theorem k_CN_startAlternative : x_kV M_CN_startAlternative "QuestionReader$Condition" 0 := ⟨⟨by decide, Or.inl ⟨w_640, rfl⟩⟩, w_638, w_639, ⟨by decide, by decide⟩, by decide +kernel⟩
def M_CN_closeBracket : x_M := (⟨"QuestionReader$Condition", "closeBracket", "()V"⟩, prog_5_method_8_code, 2, none, [])
theorem d_CN_closeBracket_0 : decode M_CN_closeBracket.2.1 0 = .ok (.aload_n 0, 1) := by decide +kernel
theorem d_CN_closeBracket_1 : decode M_CN_closeBracket.2.1 1 = .ok (.getfield 51, 3) := by decide +kernel
theorem d_CN_closeBracket_4 : decode M_CN_closeBracket.2.1 4 = .ok (.ifCond .le 23, 3) := by decide +kernel
theorem d_CN_closeBracket_7 : decode M_CN_closeBracket.2.1 7 = .ok (.aload_n 0, 1) := by decide +kernel
theorem d_CN_closeBracket_8 : decode M_CN_closeBracket.2.1 8 = .ok (.invokevirtual 61, 3) := by decide +kernel
theorem d_CN_closeBracket_11 : decode M_CN_closeBracket.2.1 11 = .ok (.istore_n 1, 1) := by decide +kernel
theorem d_CN_closeBracket_12 : decode M_CN_closeBracket.2.1 12 = .ok (.aload_n 0, 1) := by decide +kernel
theorem d_CN_closeBracket_13 : decode M_CN_closeBracket.2.1 13 = .ok (.dup, 1) := by decide +kernel
theorem d_CN_closeBracket_14 : decode M_CN_closeBracket.2.1 14 = .ok (.getfield 51, 3) := by decide +kernel
theorem d_CN_closeBracket_17 : decode M_CN_closeBracket.2.1 17 = .ok (.iconst 1, 1) := by decide +kernel
theorem d_CN_closeBracket_18 : decode M_CN_closeBracket.2.1 18 = .ok (.isub, 1) := by decide +kernel
theorem d_CN_closeBracket_19 : decode M_CN_closeBracket.2.1 19 = .ok (.putfield 51, 3) := by decide +kernel
theorem d_CN_closeBracket_22 : decode M_CN_closeBracket.2.1 22 = .ok (.aload_n 0, 1) := by decide +kernel
theorem d_CN_closeBracket_23 : decode M_CN_closeBracket.2.1 23 = .ok (.iload_n 1, 1) := by decide +kernel
theorem d_CN_closeBracket_24 : decode M_CN_closeBracket.2.1 24 = .ok (.invokevirtual 57, 3) := by decide +kernel
theorem d_CN_closeBracket_27 : decode M_CN_closeBracket.2.1 27 = .ok (.return_, 1) := by decide +kernel
theorem k_CN_closeBracket : x_kV M_CN_closeBracket "QuestionReader$Condition" 0 := ⟨⟨by decide, Or.inl ⟨w_630, rfl⟩⟩, w_628, w_629, ⟨by decide, by decide⟩, by decide +kernel⟩
def M_QG_readClosings : x_M := (⟨"QuestionReader$QuestionGrammar", "readClosings", "(LQuestionReader$Condition;)V"⟩, prog_11_method_8_code, 3, none, [])
theorem d_QG_readClosings_0 : decode M_QG_readClosings.2.1 0 = .ok (.aload_n 0, 1) := by decide +kernel
theorem d_QG_readClosings_1 : decode M_QG_readClosings.2.1 1 = .ok (.getfield 21, 3) := by decide +kernel
theorem d_QG_readClosings_4 : decode M_QG_readClosings.2.1 4 = .ok (.invokevirtual 86, 3) := by decide +kernel
theorem d_QG_readClosings_7 : decode M_QG_readClosings.2.1 7 = .ok (.aload_n 1, 1) := by decide +kernel
theorem d_QG_readClosings_8 : decode M_QG_readClosings.2.1 8 = .ok (.getfield 199, 3) := by decide +kernel
theorem d_QG_readClosings_11 : decode M_QG_readClosings.2.1 11 = .ok (.istore_n 2, 1) := by decide +kernel
theorem d_QG_readClosings_12 : decode M_QG_readClosings.2.1 12 = .ok (.iload_n 2, 1) := by decide +kernel
theorem d_QG_readClosings_13 : decode M_QG_readClosings.2.1 13 = .ok (.ifCond .le 33, 3) := by decide +kernel
theorem d_QG_readClosings_16 : decode M_QG_readClosings.2.1 16 = .ok (.aload_n 0, 1) := by decide +kernel
theorem d_QG_readClosings_17 : decode M_QG_readClosings.2.1 17 = .ok (.getfield 21, 3) := by decide +kernel
theorem d_QG_readClosings_20 : decode M_QG_readClosings.2.1 20 = .ok (.getfield 53, 3) := by decide +kernel
theorem d_QG_readClosings_23 : decode M_QG_readClosings.2.1 23 = .ok (.getstatic 120, 3) := by decide +kernel
theorem d_QG_readClosings_26 : decode M_QG_readClosings.2.1 26 = .ok (.if_acmp .ne 20, 3) := by decide +kernel
theorem d_QG_readClosings_29 : decode M_QG_readClosings.2.1 29 = .ok (.aload_n 1, 1) := by decide +kernel
theorem d_QG_readClosings_30 : decode M_QG_readClosings.2.1 30 = .ok (.invokevirtual 205, 3) := by decide +kernel
theorem d_QG_readClosings_33 : decode M_QG_readClosings.2.1 33 = .ok (.aload_n 0, 1) := by decide +kernel
theorem d_QG_readClosings_34 : decode M_QG_readClosings.2.1 34 = .ok (.getfield 21, 3) := by decide +kernel
theorem d_QG_readClosings_37 : decode M_QG_readClosings.2.1 37 = .ok (.invokevirtual 86, 3) := by decide +kernel
theorem d_QG_readClosings_40 : decode M_QG_readClosings.2.1 40 = .ok (.iinc 2 (-1), 3) := by decide +kernel
theorem d_QG_readClosings_43 : decode M_QG_readClosings.2.1 43 = .ok (.goto (-31), 3) := by decide +kernel
theorem d_QG_readClosings_46 : decode M_QG_readClosings.2.1 46 = .ok (.return_, 1) := by decide +kernel
theorem k_QG_readClosings : x_kV M_QG_readClosings "QuestionReader$QuestionGrammar" 1 := ⟨⟨by decide, Or.inl ⟨w_626, rfl⟩⟩, w_625, ws_18, ⟨by decide, by decide⟩, by decide +kernel⟩
def M_CN_coming : x_M := (⟨"QuestionReader$Condition", "coming", "()LQuestionReader$Comparison;"⟩, prog_5_method_4_code, 1, some (.object "QuestionReader$Comparison"), [])
theorem d_CN_coming_0 : decode M_CN_coming.2.1 0 = .ok (.aload_n 0, 1) := by decide +kernel
theorem d_CN_coming_1 : decode M_CN_coming.2.1 1 = .ok (.getfield 13, 3) := by decide +kernel
theorem d_CN_coming_4 : decode M_CN_coming.2.1 4 = .ok (.aload_n 0, 1) := by decide +kernel
theorem d_CN_coming_5 : decode M_CN_coming.2.1 5 = .ok (.getfield 44, 3) := by decide +kernel
theorem d_CN_coming_8 : decode M_CN_coming.2.1 8 = .ok (.aaload, 1) := by decide +kernel
theorem d_CN_coming_9 : decode M_CN_coming.2.1 9 = .ok (.areturn, 1) := by decide +kernel
theorem k_CN_coming : x_kV M_CN_coming "QuestionReader$Condition" 0 := ⟨⟨by decide, Or.inl ⟨w_549, rfl⟩⟩, w_547, w_548, ⟨by decide, by decide⟩, by decide +kernel⟩
def M_CN_isFull : x_M := (⟨"QuestionReader$Condition", "isFull", "()Z"⟩, prog_5_method_3_code, 1, some (.boolean), [])
theorem d_CN_isFull_0 : decode M_CN_isFull.2.1 0 = .ok (.aload_n 0, 1) := by decide +kernel
theorem d_CN_isFull_1 : decode M_CN_isFull.2.1 1 = .ok (.getfield 44, 3) := by decide +kernel
theorem d_CN_isFull_4 : decode M_CN_isFull.2.1 4 = .ok (.bipush 60, 2) := by decide +kernel
theorem d_CN_isFull_6 : decode M_CN_isFull.2.1 6 = .ok (.if_icmp .lt 7, 3) := by decide +kernel
theorem d_CN_isFull_9 : decode M_CN_isFull.2.1 9 = .ok (.iconst 1, 1) := by decide +kernel
theorem d_CN_isFull_10 : decode M_CN_isFull.2.1 10 = .ok (.goto 4, 3) := by decide +kernel
theorem d_CN_isFull_13 : decode M_CN_isFull.2.1 13 = .ok (.iconst 0, 1) := by decide +kernel
theorem d_CN_isFull_14 : decode M_CN_isFull.2.1 14 = .ok (.ireturn, 1) := by decide +kernel
theorem k_CN_isFull : x_kV M_CN_isFull "QuestionReader$Condition" 0 := ⟨⟨by decide, Or.inl ⟨w_545, rfl⟩⟩, w_543, w_544, ⟨by decide, by decide⟩, by decide +kernel⟩
def M_CP_restart : x_M := (⟨"QuestionReader$Comparison", "restart", "(I)V"⟩, prog_4_method_2_code, 2, none, [])
theorem d_CP_restart_0 : decode M_CP_restart.2.1 0 = .ok (.aload_n 0, 1) := by decide +kernel
theorem d_CP_restart_1 : decode M_CP_restart.2.1 1 = .ok (.iload_n 1, 1) := by decide +kernel
theorem d_CP_restart_2 : decode M_CP_restart.2.1 2 = .ok (.putfield 13, 3) := by decide +kernel
theorem d_CP_restart_5 : decode M_CP_restart.2.1 5 = .ok (.aload_n 0, 1) := by decide +kernel
theorem d_CP_restart_6 : decode M_CP_restart.2.1 6 = .ok (.iconst 0, 1) := by decide +kernel
theorem d_CP_restart_7 : decode M_CP_restart.2.1 7 = .ok (.putfield 17, 3) := by decide +kernel
theorem d_CP_restart_10 : decode M_CP_restart.2.1 10 = .ok (.aload_n 0, 1) := by decide +kernel
theorem d_CP_restart_11 : decode M_CP_restart.2.1 11 = .ok (.iconst 0, 1) := by decide +kernel
theorem d_CP_restart_12 : decode M_CP_restart.2.1 12 = .ok (.putfield 21, 3) := by decide +kernel
theorem d_CP_restart_15 : decode M_CP_restart.2.1 15 = .ok (.return_, 1) := by decide +kernel
theorem k_CP_restart : x_kV M_CP_restart "QuestionReader$Comparison" 1 := ⟨⟨by decide, Or.inl ⟨w_553, rfl⟩⟩, w_551, w_552, ⟨by decide, by decide⟩, by decide +kernel⟩
def M_CP_becomeRange : x_M := (⟨"QuestionReader$Comparison", "becomeRange", "(II)V"⟩, prog_4_method_3_code, 3, none, [])
theorem d_CP_becomeRange_0 : decode M_CP_becomeRange.2.1 0 = .ok (.aload_n 0, 1) := by decide +kernel
theorem d_CP_becomeRange_1 : decode M_CP_becomeRange.2.1 1 = .ok (.iload_n 1, 1) := by decide +kernel
theorem d_CP_becomeRange_2 : decode M_CP_becomeRange.2.1 2 = .ok (.putfield 24, 3) := by decide +kernel
theorem d_CP_becomeRange_5 : decode M_CP_becomeRange.2.1 5 = .ok (.aload_n 0, 1) := by decide +kernel
theorem d_CP_becomeRange_6 : decode M_CP_becomeRange.2.1 6 = .ok (.iload_n 2, 1) := by decide +kernel
theorem d_CP_becomeRange_7 : decode M_CP_becomeRange.2.1 7 = .ok (.putfield 27, 3) := by decide +kernel
theorem d_CP_becomeRange_10 : decode M_CP_becomeRange.2.1 10 = .ok (.return_, 1) := by decide +kernel
theorem k_CP_becomeRange : x_kV M_CP_becomeRange "QuestionReader$Comparison" 2 := ⟨⟨by decide, Or.inl ⟨w_576, rfl⟩⟩, w_574, w_575, ⟨by decide, by decide⟩, by decide +kernel⟩
def M_QG_readBetween : x_M := (⟨"QuestionReader$QuestionGrammar", "readBetween", "(LQuestionReader$Comparison;)Z"⟩, prog_11_method_11_code, 3, some (.boolean), [])
theorem d_QG_readBetween_0 : decode M_QG_readBetween.2.1 0 = .ok (.aload_n 0, 1) := by decide +kernel
theorem d_QG_readBetween_1 : decode M_QG_readBetween.2.1 1 = .ok (.getfield 21, 3) := by decide +kernel
theorem d_QG_readBetween_4 : decode M_QG_readBetween.2.1 4 = .ok (.getstatic 242, 3) := by decide +kernel
theorem d_QG_readBetween_7 : decode M_QG_readBetween.2.1 7 = .ok (.invokevirtual 113, 3) := by decide +kernel
theorem d_QG_readBetween_10 : decode M_QG_readBetween.2.1 10 = .ok (.ifCond .ne 5, 3) := by decide +kernel
theorem d_QG_readBetween_13 : decode M_QG_readBetween.2.1 13 = .ok (.iconst 0, 1) := by decide +kernel
theorem d_QG_readBetween_14 : decode M_QG_readBetween.2.1 14 = .ok (.ireturn, 1) := by decide +kernel
theorem d_QG_readBetween_15 : decode M_QG_readBetween.2.1 15 = .ok (.aload_n 0, 1) := by decide +kernel
theorem d_QG_readBetween_16 : decode M_QG_readBetween.2.1 16 = .ok (.getfield 21, 3) := by decide +kernel
theorem d_QG_readBetween_19 : decode M_QG_readBetween.2.1 19 = .ok (.getfield 245, 3) := by decide +kernel
theorem d_QG_readBetween_22 : decode M_QG_readBetween.2.1 22 = .ok (.istore_n 2, 1) := by decide +kernel
theorem d_QG_readBetween_23 : decode M_QG_readBetween.2.1 23 = .ok (.aload_n 0, 1) := by decide +kernel
theorem d_QG_readBetween_24 : decode M_QG_readBetween.2.1 24 = .ok (.getfield 21, 3) := by decide +kernel
theorem d_QG_readBetween_27 : decode M_QG_readBetween.2.1 27 = .ok (.getstatic 193, 3) := by decide +kernel
theorem d_QG_readBetween_30 : decode M_QG_readBetween.2.1 30 = .ok (.invokevirtual 113, 3) := by decide +kernel
theorem d_QG_readBetween_33 : decode M_QG_readBetween.2.1 33 = .ok (.ifCond .eq 16, 3) := by decide +kernel
theorem d_QG_readBetween_36 : decode M_QG_readBetween.2.1 36 = .ok (.aload_n 0, 1) := by decide +kernel
theorem d_QG_readBetween_37 : decode M_QG_readBetween.2.1 37 = .ok (.getfield 21, 3) := by decide +kernel
theorem d_QG_readBetween_40 : decode M_QG_readBetween.2.1 40 = .ok (.getstatic 242, 3) := by decide +kernel
theorem d_QG_readBetween_43 : decode M_QG_readBetween.2.1 43 = .ok (.invokevirtual 113, 3) := by decide +kernel
theorem d_QG_readBetween_46 : decode M_QG_readBetween.2.1 46 = .ok (.ifCond .ne 5, 3) := by decide +kernel
theorem d_QG_readBetween_49 : decode M_QG_readBetween.2.1 49 = .ok (.iconst 0, 1) := by decide +kernel
theorem d_QG_readBetween_50 : decode M_QG_readBetween.2.1 50 = .ok (.ireturn, 1) := by decide +kernel
theorem d_QG_readBetween_51 : decode M_QG_readBetween.2.1 51 = .ok (.aload_n 1, 1) := by decide +kernel
theorem d_QG_readBetween_52 : decode M_QG_readBetween.2.1 52 = .ok (.iload_n 2, 1) := by decide +kernel
theorem d_QG_readBetween_53 : decode M_QG_readBetween.2.1 53 = .ok (.aload_n 0, 1) := by decide +kernel
theorem d_QG_readBetween_54 : decode M_QG_readBetween.2.1 54 = .ok (.getfield 21, 3) := by decide +kernel
theorem d_QG_readBetween_57 : decode M_QG_readBetween.2.1 57 = .ok (.getfield 245, 3) := by decide +kernel
theorem d_QG_readBetween_60 : decode M_QG_readBetween.2.1 60 = .ok (.invokevirtual 252, 3) := by decide +kernel
theorem d_QG_readBetween_63 : decode M_QG_readBetween.2.1 63 = .ok (.iconst 1, 1) := by decide +kernel
theorem d_QG_readBetween_64 : decode M_QG_readBetween.2.1 64 = .ok (.ireturn, 1) := by decide +kernel
theorem k_QG_readBetween : x_kV M_QG_readBetween "QuestionReader$QuestionGrammar" 1 := ⟨⟨by decide, Or.inl ⟨w_570, rfl⟩⟩, w_569, ws_14, ⟨by decide, by decide⟩, by decide +kernel⟩
def M_CP_addToList : x_M := (⟨"QuestionReader$Comparison", "addToList", "(I)Z"⟩, prog_4_method_5_code, 2, some (.boolean), [])
theorem d_CP_addToList_0 : decode M_CP_addToList.2.1 0 = .ok (.aload_n 0, 1) := by decide +kernel
theorem d_CP_addToList_1 : decode M_CP_addToList.2.1 1 = .ok (.getfield 21, 3) := by decide +kernel
theorem d_CP_addToList_4 : decode M_CP_addToList.2.1 4 = .ok (.bipush 40, 2) := by decide +kernel
theorem d_CP_addToList_6 : decode M_CP_addToList.2.1 6 = .ok (.if_icmp .lt 5, 3) := by decide +kernel
theorem d_CP_addToList_9 : decode M_CP_addToList.2.1 9 = .ok (.iconst 0, 1) := by decide +kernel
theorem d_CP_addToList_10 : decode M_CP_addToList.2.1 10 = .ok (.ireturn, 1) := by decide +kernel
theorem d_CP_addToList_11 : decode M_CP_addToList.2.1 11 = .ok (.aload_n 0, 1) := by decide +kernel
theorem d_CP_addToList_12 : decode M_CP_addToList.2.1 12 = .ok (.getfield 9, 3) := by decide +kernel
theorem d_CP_addToList_15 : decode M_CP_addToList.2.1 15 = .ok (.aload_n 0, 1) := by decide +kernel
theorem d_CP_addToList_16 : decode M_CP_addToList.2.1 16 = .ok (.getfield 21, 3) := by decide +kernel
theorem d_CP_addToList_19 : decode M_CP_addToList.2.1 19 = .ok (.iload_n 1, 1) := by decide +kernel
theorem d_CP_addToList_20 : decode M_CP_addToList.2.1 20 = .ok (.iastore, 1) := by decide +kernel
theorem d_CP_addToList_21 : decode M_CP_addToList.2.1 21 = .ok (.aload_n 0, 1) := by decide +kernel
theorem d_CP_addToList_22 : decode M_CP_addToList.2.1 22 = .ok (.dup, 1) := by decide +kernel
theorem d_CP_addToList_23 : decode M_CP_addToList.2.1 23 = .ok (.getfield 21, 3) := by decide +kernel
theorem d_CP_addToList_26 : decode M_CP_addToList.2.1 26 = .ok (.iconst 1, 1) := by decide +kernel
theorem d_CP_addToList_27 : decode M_CP_addToList.2.1 27 = .ok (.iadd, 1) := by decide +kernel
theorem d_CP_addToList_28 : decode M_CP_addToList.2.1 28 = .ok (.putfield 21, 3) := by decide +kernel
theorem d_CP_addToList_31 : decode M_CP_addToList.2.1 31 = .ok (.iconst 1, 1) := by decide +kernel
theorem d_CP_addToList_32 : decode M_CP_addToList.2.1 32 = .ok (.ireturn, 1) := by decide +kernel
theorem k_CP_addToList : x_kV M_CP_addToList "QuestionReader$Comparison" 1 := ⟨⟨by decide, Or.inl ⟨w_564, rfl⟩⟩, w_562, w_563, ⟨by decide, by decide⟩, by decide +kernel⟩
def M_QG_readList : x_M := (⟨"QuestionReader$QuestionGrammar", "readList", "(LQuestionReader$Comparison;)Z"⟩, prog_11_method_12_code, 3, some (.boolean), [])
theorem d_QG_readList_0 : decode M_QG_readList.2.1 0 = .ok (.aload_n 0, 1) := by decide +kernel
theorem d_QG_readList_1 : decode M_QG_readList.2.1 1 = .ok (.getfield 21, 3) := by decide +kernel
theorem d_QG_readList_4 : decode M_QG_readList.2.1 4 = .ok (.getstatic 110, 3) := by decide +kernel
theorem d_QG_readList_7 : decode M_QG_readList.2.1 7 = .ok (.invokevirtual 113, 3) := by decide +kernel
theorem d_QG_readList_10 : decode M_QG_readList.2.1 10 = .ok (.ifCond .ne 5, 3) := by decide +kernel
theorem d_QG_readList_13 : decode M_QG_readList.2.1 13 = .ok (.iconst 0, 1) := by decide +kernel
theorem d_QG_readList_14 : decode M_QG_readList.2.1 14 = .ok (.ireturn, 1) := by decide +kernel
theorem d_QG_readList_15 : decode M_QG_readList.2.1 15 = .ok (.iconst 0, 1) := by decide +kernel
theorem d_QG_readList_16 : decode M_QG_readList.2.1 16 = .ok (.istore_n 2, 1) := by decide +kernel
theorem d_QG_readList_17 : decode M_QG_readList.2.1 17 = .ok (.iload_n 2, 1) := by decide +kernel
theorem d_QG_readList_18 : decode M_QG_readList.2.1 18 = .ok (.bipush 40, 2) := by decide +kernel
theorem d_QG_readList_20 : decode M_QG_readList.2.1 20 = .ok (.if_icmp .gt 85, 3) := by decide +kernel
theorem d_QG_readList_23 : decode M_QG_readList.2.1 23 = .ok (.aload_n 0, 1) := by decide +kernel
theorem d_QG_readList_24 : decode M_QG_readList.2.1 24 = .ok (.getfield 21, 3) := by decide +kernel
theorem d_QG_readList_27 : decode M_QG_readList.2.1 27 = .ok (.getstatic 242, 3) := by decide +kernel
theorem d_QG_readList_30 : decode M_QG_readList.2.1 30 = .ok (.invokevirtual 113, 3) := by decide +kernel
theorem d_QG_readList_33 : decode M_QG_readList.2.1 33 = .ok (.ifCond .ne 5, 3) := by decide +kernel
theorem d_QG_readList_36 : decode M_QG_readList.2.1 36 = .ok (.iconst 0, 1) := by decide +kernel
theorem d_QG_readList_37 : decode M_QG_readList.2.1 37 = .ok (.ireturn, 1) := by decide +kernel
theorem d_QG_readList_38 : decode M_QG_readList.2.1 38 = .ok (.aload_n 1, 1) := by decide +kernel
theorem d_QG_readList_39 : decode M_QG_readList.2.1 39 = .ok (.aload_n 0, 1) := by decide +kernel
theorem d_QG_readList_40 : decode M_QG_readList.2.1 40 = .ok (.getfield 21, 3) := by decide +kernel
theorem d_QG_readList_43 : decode M_QG_readList.2.1 43 = .ok (.getfield 245, 3) := by decide +kernel
theorem d_QG_readList_46 : decode M_QG_readList.2.1 46 = .ok (.invokevirtual 256, 3) := by decide +kernel
theorem d_QG_readList_49 : decode M_QG_readList.2.1 49 = .ok (.ifCond .ne 13, 3) := by decide +kernel
theorem d_QG_readList_52 : decode M_QG_readList.2.1 52 = .ok (.aload_n 0, 1) := by decide +kernel
theorem d_QG_readList_53 : decode M_QG_readList.2.1 53 = .ok (.getfield 21, 3) := by decide +kernel
theorem d_QG_readList_56 : decode M_QG_readList.2.1 56 = .ok (.bipush 7, 2) := by decide +kernel
theorem d_QG_readList_58 : decode M_QG_readList.2.1 58 = .ok (.invokevirtual 42, 3) := by decide +kernel
theorem d_QG_readList_61 : decode M_QG_readList.2.1 61 = .ok (.ireturn, 1) := by decide +kernel
theorem d_QG_readList_62 : decode M_QG_readList.2.1 62 = .ok (.aload_n 0, 1) := by decide +kernel
theorem d_QG_readList_63 : decode M_QG_readList.2.1 63 = .ok (.getfield 21, 3) := by decide +kernel
theorem d_QG_readList_66 : decode M_QG_readList.2.1 66 = .ok (.invokevirtual 86, 3) := by decide +kernel
theorem d_QG_readList_69 : decode M_QG_readList.2.1 69 = .ok (.aload_n 0, 1) := by decide +kernel
theorem d_QG_readList_70 : decode M_QG_readList.2.1 70 = .ok (.getfield 21, 3) := by decide +kernel
theorem d_QG_readList_73 : decode M_QG_readList.2.1 73 = .ok (.getfield 53, 3) := by decide +kernel
theorem d_QG_readList_76 : decode M_QG_readList.2.1 76 = .ok (.getstatic 120, 3) := by decide +kernel
theorem d_QG_readList_79 : decode M_QG_readList.2.1 79 = .ok (.if_acmp .ne 5, 3) := by decide +kernel
theorem d_QG_readList_82 : decode M_QG_readList.2.1 82 = .ok (.iconst 1, 1) := by decide +kernel
theorem d_QG_readList_83 : decode M_QG_readList.2.1 83 = .ok (.ireturn, 1) := by decide +kernel
theorem d_QG_readList_84 : decode M_QG_readList.2.1 84 = .ok (.aload_n 0, 1) := by decide +kernel
theorem d_QG_readList_85 : decode M_QG_readList.2.1 85 = .ok (.getfield 21, 3) := by decide +kernel
theorem d_QG_readList_88 : decode M_QG_readList.2.1 88 = .ok (.getstatic 92, 3) := by decide +kernel
theorem d_QG_readList_91 : decode M_QG_readList.2.1 91 = .ok (.invokevirtual 74, 3) := by decide +kernel
theorem d_QG_readList_94 : decode M_QG_readList.2.1 94 = .ok (.ifCond .ne 5, 3) := by decide +kernel
theorem d_QG_readList_97 : decode M_QG_readList.2.1 97 = .ok (.iconst 0, 1) := by decide +kernel
theorem d_QG_readList_98 : decode M_QG_readList.2.1 98 = .ok (.ireturn, 1) := by decide +kernel
theorem d_QG_readList_99 : decode M_QG_readList.2.1 99 = .ok (.iinc 2 1, 3) := by decide +kernel
theorem d_QG_readList_102 : decode M_QG_readList.2.1 102 = .ok (.goto (-85), 3) := by decide +kernel
theorem d_QG_readList_105 : decode M_QG_readList.2.1 105 = .ok (.iconst 0, 1) := by decide +kernel
theorem d_QG_readList_106 : decode M_QG_readList.2.1 106 = .ok (.ireturn, 1) := by decide +kernel
theorem k_QG_readList : x_kV M_QG_readList "QuestionReader$QuestionGrammar" 1 := ⟨⟨by decide, Or.inl ⟨w_559, rfl⟩⟩, w_558, ws_13, ⟨by decide, by decide⟩, by decide +kernel⟩
def M_CP_becomeRelation : x_M := (⟨"QuestionReader$Comparison", "becomeRelation", "(LQuestionReader$Kind;I)V"⟩, prog_4_method_4_code, 5, none, [])
theorem d_CP_becomeRelation_0 : decode M_CP_becomeRelation.2.1 0 = .ok (.aload_n 0, 1) := by decide +kernel
theorem d_CP_becomeRelation_1 : decode M_CP_becomeRelation.2.1 1 = .ok (.aload_n 1, 1) := by decide +kernel
theorem d_CP_becomeRelation_2 : decode M_CP_becomeRelation.2.1 2 = .ok (.getstatic 30, 3) := by decide +kernel
theorem d_CP_becomeRelation_5 : decode M_CP_becomeRelation.2.1 5 = .ok (.if_acmp .eq 17, 3) := by decide +kernel
theorem d_CP_becomeRelation_8 : decode M_CP_becomeRelation.2.1 8 = .ok (.aload_n 1, 1) := by decide +kernel
theorem d_CP_becomeRelation_9 : decode M_CP_becomeRelation.2.1 9 = .ok (.getstatic 36, 3) := by decide +kernel
theorem d_CP_becomeRelation_12 : decode M_CP_becomeRelation.2.1 12 = .ok (.if_acmp .eq 10, 3) := by decide +kernel
theorem d_CP_becomeRelation_15 : decode M_CP_becomeRelation.2.1 15 = .ok (.aload_n 1, 1) := by decide +kernel
theorem d_CP_becomeRelation_16 : decode M_CP_becomeRelation.2.1 16 = .ok (.getstatic 39, 3) := by decide +kernel
theorem d_CP_becomeRelation_19 : decode M_CP_becomeRelation.2.1 19 = .ok (.if_acmp .ne 7, 3) := by decide +kernel
theorem d_CP_becomeRelation_22 : decode M_CP_becomeRelation.2.1 22 = .ok (.iconst 1, 1) := by decide +kernel
theorem d_CP_becomeRelation_23 : decode M_CP_becomeRelation.2.1 23 = .ok (.goto 4, 3) := by decide +kernel
theorem d_CP_becomeRelation_26 : decode M_CP_becomeRelation.2.1 26 = .ok (.iconst 0, 1) := by decide +kernel
theorem d_CP_becomeRelation_27 : decode M_CP_becomeRelation.2.1 27 = .ok (.putfield 17, 3) := by decide +kernel
theorem d_CP_becomeRelation_30 : decode M_CP_becomeRelation.2.1 30 = .ok (.aload_n 1, 1) := by decide +kernel
theorem d_CP_becomeRelation_31 : decode M_CP_becomeRelation.2.1 31 = .ok (.getstatic 42, 3) := by decide +kernel
theorem d_CP_becomeRelation_34 : decode M_CP_becomeRelation.2.1 34 = .ok (.if_acmp .eq 10, 3) := by decide +kernel
theorem d_CP_becomeRelation_37 : decode M_CP_becomeRelation.2.1 37 = .ok (.aload_n 1, 1) := by decide +kernel
theorem d_CP_becomeRelation_38 : decode M_CP_becomeRelation.2.1 38 = .ok (.getstatic 39, 3) := by decide +kernel
theorem d_CP_becomeRelation_41 : decode M_CP_becomeRelation.2.1 41 = .ok (.if_acmp .ne 7, 3) := by decide +kernel
theorem d_CP_becomeRelation_44 : decode M_CP_becomeRelation.2.1 44 = .ok (.iconst 1, 1) := by decide +kernel
theorem d_CP_becomeRelation_45 : decode M_CP_becomeRelation.2.1 45 = .ok (.goto 4, 3) := by decide +kernel
theorem d_CP_becomeRelation_48 : decode M_CP_becomeRelation.2.1 48 = .ok (.iconst 0, 1) := by decide +kernel
theorem d_CP_becomeRelation_49 : decode M_CP_becomeRelation.2.1 49 = .ok (.istore_n 3, 1) := by decide +kernel
theorem d_CP_becomeRelation_50 : decode M_CP_becomeRelation.2.1 50 = .ok (.aload_n 1, 1) := by decide +kernel
theorem d_CP_becomeRelation_51 : decode M_CP_becomeRelation.2.1 51 = .ok (.getstatic 45, 3) := by decide +kernel
theorem d_CP_becomeRelation_54 : decode M_CP_becomeRelation.2.1 54 = .ok (.if_acmp .eq 10, 3) := by decide +kernel
theorem d_CP_becomeRelation_57 : decode M_CP_becomeRelation.2.1 57 = .ok (.aload_n 1, 1) := by decide +kernel
theorem d_CP_becomeRelation_58 : decode M_CP_becomeRelation.2.1 58 = .ok (.getstatic 36, 3) := by decide +kernel
theorem d_CP_becomeRelation_61 : decode M_CP_becomeRelation.2.1 61 = .ok (.if_acmp .ne 7, 3) := by decide +kernel
theorem d_CP_becomeRelation_64 : decode M_CP_becomeRelation.2.1 64 = .ok (.iconst 1, 1) := by decide +kernel
theorem d_CP_becomeRelation_65 : decode M_CP_becomeRelation.2.1 65 = .ok (.goto 4, 3) := by decide +kernel
theorem d_CP_becomeRelation_68 : decode M_CP_becomeRelation.2.1 68 = .ok (.iconst 0, 1) := by decide +kernel
theorem d_CP_becomeRelation_69 : decode M_CP_becomeRelation.2.1 69 = .ok (.istore 4, 2) := by decide +kernel
theorem d_CP_becomeRelation_71 : decode M_CP_becomeRelation.2.1 71 = .ok (.aload_n 0, 1) := by decide +kernel
theorem d_CP_becomeRelation_72 : decode M_CP_becomeRelation.2.1 72 = .ok (.iload_n 3, 1) := by decide +kernel
theorem d_CP_becomeRelation_73 : decode M_CP_becomeRelation.2.1 73 = .ok (.ifCond .eq 8, 3) := by decide +kernel
theorem d_CP_becomeRelation_76 : decode M_CP_becomeRelation.2.1 76 = .ok (.ldc 50, 2) := by decide +kernel
theorem d_CP_becomeRelation_78 : decode M_CP_becomeRelation.2.1 78 = .ok (.goto 4, 3) := by decide +kernel
theorem d_CP_becomeRelation_81 : decode M_CP_becomeRelation.2.1 81 = .ok (.iload_n 2, 1) := by decide +kernel
theorem d_CP_becomeRelation_82 : decode M_CP_becomeRelation.2.1 82 = .ok (.putfield 24, 3) := by decide +kernel
theorem d_CP_becomeRelation_85 : decode M_CP_becomeRelation.2.1 85 = .ok (.aload_n 0, 1) := by decide +kernel
theorem d_CP_becomeRelation_86 : decode M_CP_becomeRelation.2.1 86 = .ok (.iload 4, 2) := by decide +kernel
theorem d_CP_becomeRelation_88 : decode M_CP_becomeRelation.2.1 88 = .ok (.ifCond .eq 8, 3) := by decide +kernel
theorem d_CP_becomeRelation_91 : decode M_CP_becomeRelation.2.1 91 = .ok (.ldc 51, 2) := by decide +kernel
theorem d_CP_becomeRelation_93 : decode M_CP_becomeRelation.2.1 93 = .ok (.goto 4, 3) := by decide +kernel
theorem d_CP_becomeRelation_96 : decode M_CP_becomeRelation.2.1 96 = .ok (.iload_n 2, 1) := by decide +kernel
theorem d_CP_becomeRelation_97 : decode M_CP_becomeRelation.2.1 97 = .ok (.putfield 27, 3) := by decide +kernel
theorem d_CP_becomeRelation_100 : decode M_CP_becomeRelation.2.1 100 = .ok (.return_, 1) := by decide +kernel
theorem k_CP_becomeRelation : x_kV M_CP_becomeRelation "QuestionReader$Comparison" 2 := ⟨⟨by decide, Or.inl ⟨w_603, rfl⟩⟩, w_601, w_602, ⟨by decide, by decide⟩, by decide +kernel⟩
def M_QG_isRelation : x_M := (⟨"QuestionReader$QuestionGrammar", "isRelation", "(LQuestionReader$Kind;)Z"⟩, prog_11_method_16_code, 1, some (.boolean), [])
theorem d_QG_isRelation_0 : decode M_QG_isRelation.2.1 0 = .ok (.aload_n 0, 1) := by decide +kernel
theorem d_QG_isRelation_1 : decode M_QG_isRelation.2.1 1 = .ok (.getstatic 299, 3) := by decide +kernel
theorem d_QG_isRelation_4 : decode M_QG_isRelation.2.1 4 = .ok (.if_acmp .eq 38, 3) := by decide +kernel
theorem d_QG_isRelation_7 : decode M_QG_isRelation.2.1 7 = .ok (.aload_n 0, 1) := by decide +kernel
theorem d_QG_isRelation_8 : decode M_QG_isRelation.2.1 8 = .ok (.getstatic 302, 3) := by decide +kernel
theorem d_QG_isRelation_11 : decode M_QG_isRelation.2.1 11 = .ok (.if_acmp .eq 31, 3) := by decide +kernel
theorem d_QG_isRelation_14 : decode M_QG_isRelation.2.1 14 = .ok (.aload_n 0, 1) := by decide +kernel
theorem d_QG_isRelation_15 : decode M_QG_isRelation.2.1 15 = .ok (.getstatic 305, 3) := by decide +kernel
theorem d_QG_isRelation_18 : decode M_QG_isRelation.2.1 18 = .ok (.if_acmp .eq 24, 3) := by decide +kernel
theorem d_QG_isRelation_21 : decode M_QG_isRelation.2.1 21 = .ok (.aload_n 0, 1) := by decide +kernel
theorem d_QG_isRelation_22 : decode M_QG_isRelation.2.1 22 = .ok (.getstatic 308, 3) := by decide +kernel
theorem d_QG_isRelation_25 : decode M_QG_isRelation.2.1 25 = .ok (.if_acmp .eq 17, 3) := by decide +kernel
theorem d_QG_isRelation_28 : decode M_QG_isRelation.2.1 28 = .ok (.aload_n 0, 1) := by decide +kernel
theorem d_QG_isRelation_29 : decode M_QG_isRelation.2.1 29 = .ok (.getstatic 311, 3) := by decide +kernel
theorem d_QG_isRelation_32 : decode M_QG_isRelation.2.1 32 = .ok (.if_acmp .eq 10, 3) := by decide +kernel
theorem d_QG_isRelation_35 : decode M_QG_isRelation.2.1 35 = .ok (.aload_n 0, 1) := by decide +kernel
theorem d_QG_isRelation_36 : decode M_QG_isRelation.2.1 36 = .ok (.getstatic 314, 3) := by decide +kernel
theorem d_QG_isRelation_39 : decode M_QG_isRelation.2.1 39 = .ok (.if_acmp .ne 7, 3) := by decide +kernel
theorem d_QG_isRelation_42 : decode M_QG_isRelation.2.1 42 = .ok (.iconst 1, 1) := by decide +kernel
theorem d_QG_isRelation_43 : decode M_QG_isRelation.2.1 43 = .ok (.goto 4, 3) := by decide +kernel
theorem d_QG_isRelation_46 : decode M_QG_isRelation.2.1 46 = .ok (.iconst 0, 1) := by decide +kernel
theorem d_QG_isRelation_47 : decode M_QG_isRelation.2.1 47 = .ok (.ireturn, 1) := by decide +kernel
theorem k_QG_isRelation : x_kS M_QG_isRelation 1 := ⟨⟨by decide, Or.inl ⟨w_583, rfl⟩⟩, w_582, w_10, ⟨by decide, by decide⟩, by decide +kernel⟩
def M_QG_readRelation : x_M := (⟨"QuestionReader$QuestionGrammar", "readRelation", "(LQuestionReader$Comparison;)Z"⟩, prog_11_method_10_code, 3, some (.boolean), [])
theorem d_QG_readRelation_0 : decode M_QG_readRelation.2.1 0 = .ok (.aload_n 0, 1) := by decide +kernel
theorem d_QG_readRelation_1 : decode M_QG_readRelation.2.1 1 = .ok (.getfield 21, 3) := by decide +kernel
theorem d_QG_readRelation_4 : decode M_QG_readRelation.2.1 4 = .ok (.getfield 53, 3) := by decide +kernel
theorem d_QG_readRelation_7 : decode M_QG_readRelation.2.1 7 = .ok (.astore_n 2, 1) := by decide +kernel
theorem d_QG_readRelation_8 : decode M_QG_readRelation.2.1 8 = .ok (.aload_n 2, 1) := by decide +kernel
theorem d_QG_readRelation_9 : decode M_QG_readRelation.2.1 9 = .ok (.invokestatic 239, 3) := by decide +kernel
theorem d_QG_readRelation_12 : decode M_QG_readRelation.2.1 12 = .ok (.ifCond .ne 11, 3) := by decide +kernel
theorem d_QG_readRelation_15 : decode M_QG_readRelation.2.1 15 = .ok (.aload_n 0, 1) := by decide +kernel
theorem d_QG_readRelation_16 : decode M_QG_readRelation.2.1 16 = .ok (.getfield 21, 3) := by decide +kernel
theorem d_QG_readRelation_19 : decode M_QG_readRelation.2.1 19 = .ok (.invokevirtual 202, 3) := by decide +kernel
theorem d_QG_readRelation_22 : decode M_QG_readRelation.2.1 22 = .ok (.ireturn, 1) := by decide +kernel
theorem d_QG_readRelation_23 : decode M_QG_readRelation.2.1 23 = .ok (.aload_n 0, 1) := by decide +kernel
theorem d_QG_readRelation_24 : decode M_QG_readRelation.2.1 24 = .ok (.getfield 21, 3) := by decide +kernel
theorem d_QG_readRelation_27 : decode M_QG_readRelation.2.1 27 = .ok (.getstatic 242, 3) := by decide +kernel
theorem d_QG_readRelation_30 : decode M_QG_readRelation.2.1 30 = .ok (.invokevirtual 113, 3) := by decide +kernel
theorem d_QG_readRelation_33 : decode M_QG_readRelation.2.1 33 = .ok (.ifCond .ne 5, 3) := by decide +kernel
theorem d_QG_readRelation_36 : decode M_QG_readRelation.2.1 36 = .ok (.iconst 0, 1) := by decide +kernel
theorem d_QG_readRelation_37 : decode M_QG_readRelation.2.1 37 = .ok (.ireturn, 1) := by decide +kernel
theorem d_QG_readRelation_38 : decode M_QG_readRelation.2.1 38 = .ok (.aload_n 1, 1) := by decide +kernel
theorem d_QG_readRelation_39 : decode M_QG_readRelation.2.1 39 = .ok (.aload_n 2, 1) := by decide +kernel
theorem d_QG_readRelation_40 : decode M_QG_readRelation.2.1 40 = .ok (.aload_n 0, 1) := by decide +kernel
theorem d_QG_readRelation_41 : decode M_QG_readRelation.2.1 41 = .ok (.getfield 21, 3) := by decide +kernel
theorem d_QG_readRelation_44 : decode M_QG_readRelation.2.1 44 = .ok (.getfield 245, 3) := by decide +kernel
theorem d_QG_readRelation_47 : decode M_QG_readRelation.2.1 47 = .ok (.invokevirtual 248, 3) := by decide +kernel
theorem d_QG_readRelation_50 : decode M_QG_readRelation.2.1 50 = .ok (.iconst 1, 1) := by decide +kernel
theorem d_QG_readRelation_51 : decode M_QG_readRelation.2.1 51 = .ok (.ireturn, 1) := by decide +kernel
theorem k_QG_readRelation : x_kV M_QG_readRelation "QuestionReader$QuestionGrammar" 1 := ⟨⟨by decide, Or.inl ⟨w_580, rfl⟩⟩, w_579, ws_15, ⟨by decide, by decide⟩, by decide +kernel⟩
def M_QG_readComparison : x_M := (⟨"QuestionReader$QuestionGrammar", "readComparison", "(LQuestionReader$Condition;)Z"⟩, prog_11_method_9_code, 5, some (.boolean), [])
theorem d_QG_readComparison_0 : decode M_QG_readComparison.2.1 0 = .ok (.aload_n 1, 1) := by decide +kernel
theorem d_QG_readComparison_1 : decode M_QG_readComparison.2.1 1 = .ok (.invokevirtual 208, 3) := by decide +kernel
theorem d_QG_readComparison_4 : decode M_QG_readComparison.2.1 4 = .ok (.istore_n 2, 1) := by decide +kernel
theorem d_QG_readComparison_5 : decode M_QG_readComparison.2.1 5 = .ok (.aload_n 0, 1) := by decide +kernel
theorem d_QG_readComparison_6 : decode M_QG_readComparison.2.1 6 = .ok (.iload_n 2, 1) := by decide +kernel
theorem d_QG_readComparison_7 : decode M_QG_readComparison.2.1 7 = .ok (.invokevirtual 106, 3) := by decide +kernel
theorem d_QG_readComparison_10 : decode M_QG_readComparison.2.1 10 = .ok (.istore_n 3, 1) := by decide +kernel
theorem d_QG_readComparison_11 : decode M_QG_readComparison.2.1 11 = .ok (.iload_n 2, 1) := by decide +kernel
theorem d_QG_readComparison_12 : decode M_QG_readComparison.2.1 12 = .ok (.ifCond .ne 8, 3) := by decide +kernel
theorem d_QG_readComparison_15 : decode M_QG_readComparison.2.1 15 = .ok (.iload_n 3, 1) := by decide +kernel
theorem d_QG_readComparison_16 : decode M_QG_readComparison.2.1 16 = .ok (.iconst (-1), 1) := by decide +kernel
theorem d_QG_readComparison_17 : decode M_QG_readComparison.2.1 17 = .ok (.if_icmp .ne 5, 3) := by decide +kernel
theorem d_QG_readComparison_20 : decode M_QG_readComparison.2.1 20 = .ok (.iconst 0, 1) := by decide +kernel
theorem d_QG_readComparison_21 : decode M_QG_readComparison.2.1 21 = .ok (.ireturn, 1) := by decide +kernel
theorem d_QG_readComparison_22 : decode M_QG_readComparison.2.1 22 = .ok (.aload_n 1, 1) := by decide +kernel
theorem d_QG_readComparison_23 : decode M_QG_readComparison.2.1 23 = .ok (.invokevirtual 211, 3) := by decide +kernel
theorem d_QG_readComparison_26 : decode M_QG_readComparison.2.1 26 = .ok (.astore 4, 2) := by decide +kernel
theorem d_QG_readComparison_28 : decode M_QG_readComparison.2.1 28 = .ok (.aload 4, 2) := by decide +kernel
theorem d_QG_readComparison_30 : decode M_QG_readComparison.2.1 30 = .ok (.iload_n 3, 1) := by decide +kernel
theorem d_QG_readComparison_31 : decode M_QG_readComparison.2.1 31 = .ok (.invokevirtual 215, 3) := by decide +kernel
theorem d_QG_readComparison_34 : decode M_QG_readComparison.2.1 34 = .ok (.aload_n 0, 1) := by decide +kernel
theorem d_QG_readComparison_35 : decode M_QG_readComparison.2.1 35 = .ok (.getfield 21, 3) := by decide +kernel
theorem d_QG_readComparison_38 : decode M_QG_readComparison.2.1 38 = .ok (.invokevirtual 86, 3) := by decide +kernel
theorem d_QG_readComparison_41 : decode M_QG_readComparison.2.1 41 = .ok (.aload_n 0, 1) := by decide +kernel
theorem d_QG_readComparison_42 : decode M_QG_readComparison.2.1 42 = .ok (.getfield 21, 3) := by decide +kernel
theorem d_QG_readComparison_45 : decode M_QG_readComparison.2.1 45 = .ok (.getfield 53, 3) := by decide +kernel
theorem d_QG_readComparison_48 : decode M_QG_readComparison.2.1 48 = .ok (.getstatic 165, 3) := by decide +kernel
theorem d_QG_readComparison_51 : decode M_QG_readComparison.2.1 51 = .ok (.if_acmp .ne 37, 3) := by decide +kernel
theorem d_QG_readComparison_54 : decode M_QG_readComparison.2.1 54 = .ok (.aload 4, 2) := by decide +kernel
theorem d_QG_readComparison_56 : decode M_QG_readComparison.2.1 56 = .ok (.iconst 1, 1) := by decide +kernel
theorem d_QG_readComparison_57 : decode M_QG_readComparison.2.1 57 = .ok (.putfield 220, 3) := by decide +kernel
theorem d_QG_readComparison_60 : decode M_QG_readComparison.2.1 60 = .ok (.aload_n 0, 1) := by decide +kernel
theorem d_QG_readComparison_61 : decode M_QG_readComparison.2.1 61 = .ok (.getfield 21, 3) := by decide +kernel
theorem d_QG_readComparison_64 : decode M_QG_readComparison.2.1 64 = .ok (.getstatic 223, 3) := by decide +kernel
theorem d_QG_readComparison_67 : decode M_QG_readComparison.2.1 67 = .ok (.invokevirtual 113, 3) := by decide +kernel
theorem d_QG_readComparison_70 : decode M_QG_readComparison.2.1 70 = .ok (.ifCond .eq 16, 3) := by decide +kernel
theorem d_QG_readComparison_73 : decode M_QG_readComparison.2.1 73 = .ok (.aload_n 0, 1) := by decide +kernel
theorem d_QG_readComparison_74 : decode M_QG_readComparison.2.1 74 = .ok (.aload 4, 2) := by decide +kernel
theorem d_QG_readComparison_76 : decode M_QG_readComparison.2.1 76 = .ok (.invokevirtual 226, 3) := by decide +kernel
theorem d_QG_readComparison_79 : decode M_QG_readComparison.2.1 79 = .ok (.ifCond .eq 7, 3) := by decide +kernel
theorem d_QG_readComparison_82 : decode M_QG_readComparison.2.1 82 = .ok (.iconst 1, 1) := by decide +kernel
theorem d_QG_readComparison_83 : decode M_QG_readComparison.2.1 83 = .ok (.goto 4, 3) := by decide +kernel
theorem d_QG_readComparison_86 : decode M_QG_readComparison.2.1 86 = .ok (.iconst 0, 1) := by decide +kernel
theorem d_QG_readComparison_87 : decode M_QG_readComparison.2.1 87 = .ok (.ireturn, 1) := by decide +kernel
theorem d_QG_readComparison_88 : decode M_QG_readComparison.2.1 88 = .ok (.aload_n 0, 1) := by decide +kernel
theorem d_QG_readComparison_89 : decode M_QG_readComparison.2.1 89 = .ok (.getfield 21, 3) := by decide +kernel
theorem d_QG_readComparison_92 : decode M_QG_readComparison.2.1 92 = .ok (.getfield 53, 3) := by decide +kernel
theorem d_QG_readComparison_95 : decode M_QG_readComparison.2.1 95 = .ok (.getstatic 223, 3) := by decide +kernel
theorem d_QG_readComparison_98 : decode M_QG_readComparison.2.1 98 = .ok (.if_acmp .ne 10, 3) := by decide +kernel
theorem d_QG_readComparison_101 : decode M_QG_readComparison.2.1 101 = .ok (.aload_n 0, 1) := by decide +kernel
theorem d_QG_readComparison_102 : decode M_QG_readComparison.2.1 102 = .ok (.aload 4, 2) := by decide +kernel
theorem d_QG_readComparison_104 : decode M_QG_readComparison.2.1 104 = .ok (.invokevirtual 226, 3) := by decide +kernel
theorem d_QG_readComparison_107 : decode M_QG_readComparison.2.1 107 = .ok (.ireturn, 1) := by decide +kernel
theorem d_QG_readComparison_108 : decode M_QG_readComparison.2.1 108 = .ok (.aload_n 0, 1) := by decide +kernel
theorem d_QG_readComparison_109 : decode M_QG_readComparison.2.1 109 = .ok (.getfield 21, 3) := by decide +kernel
theorem d_QG_readComparison_112 : decode M_QG_readComparison.2.1 112 = .ok (.getfield 53, 3) := by decide +kernel
theorem d_QG_readComparison_115 : decode M_QG_readComparison.2.1 115 = .ok (.getstatic 230, 3) := by decide +kernel
theorem d_QG_readComparison_118 : decode M_QG_readComparison.2.1 118 = .ok (.if_acmp .ne 12, 3) := by decide +kernel
theorem d_QG_readComparison_121 : decode M_QG_readComparison.2.1 121 = .ok (.aload_n 0, 1) := by decide +kernel
theorem d_QG_readComparison_122 : decode M_QG_readComparison.2.1 122 = .ok (.aload 4, 2) := by decide +kernel
theorem d_QG_readComparison_124 : decode M_QG_readComparison.2.1 124 = .ok (.invokevirtual 233, 3) := by decide +kernel
theorem d_QG_readComparison_127 : decode M_QG_readComparison.2.1 127 = .ok (.goto 9, 3) := by decide +kernel
theorem d_QG_readComparison_130 : decode M_QG_readComparison.2.1 130 = .ok (.aload_n 0, 1) := by decide +kernel
theorem d_QG_readComparison_131 : decode M_QG_readComparison.2.1 131 = .ok (.aload 4, 2) := by decide +kernel
theorem d_QG_readComparison_133 : decode M_QG_readComparison.2.1 133 = .ok (.invokevirtual 236, 3) := by decide +kernel
theorem d_QG_readComparison_136 : decode M_QG_readComparison.2.1 136 = .ok (.ireturn, 1) := by decide +kernel
theorem k_QG_readComparison : x_kV M_QG_readComparison "QuestionReader$QuestionGrammar" 1 := ⟨⟨by decide, Or.inl ⟨w_541, rfl⟩⟩, w_540, ws_12, ⟨by decide, by decide⟩, by decide +kernel⟩
def M_QG_readWhere : x_M := (⟨"QuestionReader$QuestionGrammar", "readWhere", "()Z"⟩, prog_11_method_7_code, 3, some (.boolean), [])
theorem d_QG_readWhere_0 : decode M_QG_readWhere.2.1 0 = .ok (.aload_n 0, 1) := by decide +kernel
theorem d_QG_readWhere_1 : decode M_QG_readWhere.2.1 1 = .ok (.getfield 18, 3) := by decide +kernel
theorem d_QG_readWhere_4 : decode M_QG_readWhere.2.1 4 = .ok (.getfield 158, 3) := by decide +kernel
theorem d_QG_readWhere_7 : decode M_QG_readWhere.2.1 7 = .ok (.astore_n 1, 1) := by decide +kernel
theorem d_QG_readWhere_8 : decode M_QG_readWhere.2.1 8 = .ok (.aload_n 0, 1) := by decide +kernel
theorem d_QG_readWhere_9 : decode M_QG_readWhere.2.1 9 = .ok (.getfield 21, 3) := by decide +kernel
theorem d_QG_readWhere_12 : decode M_QG_readWhere.2.1 12 = .ok (.invokevirtual 86, 3) := by decide +kernel
theorem d_QG_readWhere_15 : decode M_QG_readWhere.2.1 15 = .ok (.iconst 0, 1) := by decide +kernel
theorem d_QG_readWhere_16 : decode M_QG_readWhere.2.1 16 = .ok (.istore_n 2, 1) := by decide +kernel
theorem d_QG_readWhere_17 : decode M_QG_readWhere.2.1 17 = .ok (.iload_n 2, 1) := by decide +kernel
theorem d_QG_readWhere_18 : decode M_QG_readWhere.2.1 18 = .ok (.ldc 164, 2) := by decide +kernel
theorem d_QG_readWhere_20 : decode M_QG_readWhere.2.1 20 = .ok (.if_icmp .gt 145, 3) := by decide +kernel
theorem d_QG_readWhere_23 : decode M_QG_readWhere.2.1 23 = .ok (.aload_n 0, 1) := by decide +kernel
theorem d_QG_readWhere_24 : decode M_QG_readWhere.2.1 24 = .ok (.getfield 21, 3) := by decide +kernel
theorem d_QG_readWhere_27 : decode M_QG_readWhere.2.1 27 = .ok (.getfield 53, 3) := by decide +kernel
theorem d_QG_readWhere_30 : decode M_QG_readWhere.2.1 30 = .ok (.getstatic 165, 3) := by decide +kernel
theorem d_QG_readWhere_33 : decode M_QG_readWhere.2.1 33 = .ok (.if_acmp .ne 10, 3) := by decide +kernel
theorem d_QG_readWhere_36 : decode M_QG_readWhere.2.1 36 = .ok (.aload_n 1, 1) := by decide +kernel
theorem d_QG_readWhere_37 : decode M_QG_readWhere.2.1 37 = .ok (.invokevirtual 168, 3) := by decide +kernel
theorem d_QG_readWhere_40 : decode M_QG_readWhere.2.1 40 = .ok (.goto 112, 3) := by decide +kernel
theorem d_QG_readWhere_43 : decode M_QG_readWhere.2.1 43 = .ok (.aload_n 0, 1) := by decide +kernel
theorem d_QG_readWhere_44 : decode M_QG_readWhere.2.1 44 = .ok (.getfield 21, 3) := by decide +kernel
theorem d_QG_readWhere_47 : decode M_QG_readWhere.2.1 47 = .ok (.getfield 53, 3) := by decide +kernel
theorem d_QG_readWhere_50 : decode M_QG_readWhere.2.1 50 = .ok (.getstatic 110, 3) := by decide +kernel
theorem d_QG_readWhere_53 : decode M_QG_readWhere.2.1 53 = .ok (.if_acmp .ne 20, 3) := by decide +kernel
theorem d_QG_readWhere_56 : decode M_QG_readWhere.2.1 56 = .ok (.aload_n 1, 1) := by decide +kernel
theorem d_QG_readWhere_57 : decode M_QG_readWhere.2.1 57 = .ok (.invokevirtual 173, 3) := by decide +kernel
theorem d_QG_readWhere_60 : decode M_QG_readWhere.2.1 60 = .ok (.ifCond .ne 92, 3) := by decide +kernel
theorem d_QG_readWhere_63 : decode M_QG_readWhere.2.1 63 = .ok (.aload_n 0, 1) := by decide +kernel
theorem d_QG_readWhere_64 : decode M_QG_readWhere.2.1 64 = .ok (.getfield 21, 3) := by decide +kernel
theorem d_QG_readWhere_67 : decode M_QG_readWhere.2.1 67 = .ok (.bipush 7, 2) := by decide +kernel
theorem d_QG_readWhere_69 : decode M_QG_readWhere.2.1 69 = .ok (.invokevirtual 42, 3) := by decide +kernel
theorem d_QG_readWhere_72 : decode M_QG_readWhere.2.1 72 = .ok (.ireturn, 1) := by decide +kernel
theorem d_QG_readWhere_73 : decode M_QG_readWhere.2.1 73 = .ok (.aload_n 0, 1) := by decide +kernel
theorem d_QG_readWhere_74 : decode M_QG_readWhere.2.1 74 = .ok (.aload_n 1, 1) := by decide +kernel
theorem d_QG_readWhere_75 : decode M_QG_readWhere.2.1 75 = .ok (.invokevirtual 176, 3) := by decide +kernel
theorem d_QG_readWhere_78 : decode M_QG_readWhere.2.1 78 = .ok (.ifCond .ne 5, 3) := by decide +kernel
theorem d_QG_readWhere_81 : decode M_QG_readWhere.2.1 81 = .ok (.iconst 0, 1) := by decide +kernel
theorem d_QG_readWhere_82 : decode M_QG_readWhere.2.1 82 = .ok (.ireturn, 1) := by decide +kernel
theorem d_QG_readWhere_83 : decode M_QG_readWhere.2.1 83 = .ok (.aload_n 1, 1) := by decide +kernel
theorem d_QG_readWhere_84 : decode M_QG_readWhere.2.1 84 = .ok (.invokevirtual 180, 3) := by decide +kernel
theorem d_QG_readWhere_87 : decode M_QG_readWhere.2.1 87 = .ok (.aload_n 0, 1) := by decide +kernel
theorem d_QG_readWhere_88 : decode M_QG_readWhere.2.1 88 = .ok (.aload_n 1, 1) := by decide +kernel
theorem d_QG_readWhere_89 : decode M_QG_readWhere.2.1 89 = .ok (.invokevirtual 183, 3) := by decide +kernel
theorem d_QG_readWhere_92 : decode M_QG_readWhere.2.1 92 = .ok (.aload_n 0, 1) := by decide +kernel
theorem d_QG_readWhere_93 : decode M_QG_readWhere.2.1 93 = .ok (.getfield 21, 3) := by decide +kernel
theorem d_QG_readWhere_96 : decode M_QG_readWhere.2.1 96 = .ok (.getfield 53, 3) := by decide +kernel
theorem d_QG_readWhere_99 : decode M_QG_readWhere.2.1 99 = .ok (.getstatic 187, 3) := by decide +kernel
theorem d_QG_readWhere_102 : decode M_QG_readWhere.2.1 102 = .ok (.if_acmp .ne 10, 3) := by decide +kernel
theorem d_QG_readWhere_105 : decode M_QG_readWhere.2.1 105 = .ok (.aload_n 1, 1) := by decide +kernel
theorem d_QG_readWhere_106 : decode M_QG_readWhere.2.1 106 = .ok (.invokevirtual 190, 3) := by decide +kernel
theorem d_QG_readWhere_109 : decode M_QG_readWhere.2.1 109 = .ok (.goto 43, 3) := by decide +kernel
theorem d_QG_readWhere_112 : decode M_QG_readWhere.2.1 112 = .ok (.aload_n 0, 1) := by decide +kernel
theorem d_QG_readWhere_113 : decode M_QG_readWhere.2.1 113 = .ok (.getfield 21, 3) := by decide +kernel
theorem d_QG_readWhere_116 : decode M_QG_readWhere.2.1 116 = .ok (.getfield 53, 3) := by decide +kernel
theorem d_QG_readWhere_119 : decode M_QG_readWhere.2.1 119 = .ok (.getstatic 193, 3) := by decide +kernel
theorem d_QG_readWhere_122 : decode M_QG_readWhere.2.1 122 = .ok (.if_acmp .eq 30, 3) := by decide +kernel
theorem d_QG_readWhere_125 : decode M_QG_readWhere.2.1 125 = .ok (.aload_n 1, 1) := by decide +kernel
theorem d_QG_readWhere_126 : decode M_QG_readWhere.2.1 126 = .ok (.invokevirtual 196, 3) := by decide +kernel
theorem d_QG_readWhere_129 : decode M_QG_readWhere.2.1 129 = .ok (.aload_n 1, 1) := by decide +kernel
theorem d_QG_readWhere_130 : decode M_QG_readWhere.2.1 130 = .ok (.getfield 199, 3) := by decide +kernel
theorem d_QG_readWhere_133 : decode M_QG_readWhere.2.1 133 = .ok (.ifCond .eq 13, 3) := by decide +kernel
theorem d_QG_readWhere_136 : decode M_QG_readWhere.2.1 136 = .ok (.aload_n 0, 1) := by decide +kernel
theorem d_QG_readWhere_137 : decode M_QG_readWhere.2.1 137 = .ok (.getfield 21, 3) := by decide +kernel
theorem d_QG_readWhere_140 : decode M_QG_readWhere.2.1 140 = .ok (.invokevirtual 202, 3) := by decide +kernel
theorem d_QG_readWhere_143 : decode M_QG_readWhere.2.1 143 = .ok (.ifCond .eq 7, 3) := by decide +kernel
theorem d_QG_readWhere_146 : decode M_QG_readWhere.2.1 146 = .ok (.iconst 1, 1) := by decide +kernel
theorem d_QG_readWhere_147 : decode M_QG_readWhere.2.1 147 = .ok (.goto 4, 3) := by decide +kernel
theorem d_QG_readWhere_150 : decode M_QG_readWhere.2.1 150 = .ok (.iconst 0, 1) := by decide +kernel
theorem d_QG_readWhere_151 : decode M_QG_readWhere.2.1 151 = .ok (.ireturn, 1) := by decide +kernel
theorem d_QG_readWhere_152 : decode M_QG_readWhere.2.1 152 = .ok (.aload_n 0, 1) := by decide +kernel
theorem d_QG_readWhere_153 : decode M_QG_readWhere.2.1 153 = .ok (.getfield 21, 3) := by decide +kernel
theorem d_QG_readWhere_156 : decode M_QG_readWhere.2.1 156 = .ok (.invokevirtual 86, 3) := by decide +kernel
theorem d_QG_readWhere_159 : decode M_QG_readWhere.2.1 159 = .ok (.iinc 2 1, 3) := by decide +kernel
theorem d_QG_readWhere_162 : decode M_QG_readWhere.2.1 162 = .ok (.goto (-145), 3) := by decide +kernel
theorem d_QG_readWhere_165 : decode M_QG_readWhere.2.1 165 = .ok (.iconst 0, 1) := by decide +kernel
theorem d_QG_readWhere_166 : decode M_QG_readWhere.2.1 166 = .ok (.ireturn, 1) := by decide +kernel
theorem k_QG_readWhere : x_kV M_QG_readWhere "QuestionReader$QuestionGrammar" 0 := ⟨⟨by decide, Or.inl ⟨w_526, rfl⟩⟩, w_525, ws_11, ⟨by decide, by decide⟩, by decide +kernel⟩
def B_CN_join_14 (p : Nat)  (l3 : Int32) (m : x_m) : Option (Int32 × x_m) := some (l3, m)
theorem b_CN_join_14 {G : x_G} {ex : Bool} {r : Int32 × x_m} {p : Nat} (hp : x_CN p)  {l3 : Int32} {m : x_m} (h : B_CN_join_14 p l3 m = some r) : x_W G M_CN_join (x_rd 0) (x_Q G (x_rd 0) ex (x_pi r)) ex x_np (x_hp m) 0 0 [(3, .int l3)] [] 14 := by
  unfold B_CN_join_14 at h
  refine x_iload_n d_CN_join_14 rfl rfl ?_
  cases h
  exact x_ri d_CN_join_15 rfl rfl
def F_CN_join (p : Nat) (a1 : Int32) (a2 : Int32) (a3 : Int32) (m : x_m) : Option (Int32 × x_m) := (if a2 = ((-1)) then B_CN_join_14 p a3 m else (if (m.1 p 3) < 59 then (if x_ix (m.1 p 3) 59 = true then (if x_ix ((x_wA m (p + 2) (m.1 p 3).toNatClampNeg a2).1 p 3) 59 = true then (if x_ix ((x_wA (x_wA m (p + 2) (m.1 p 3).toNatClampNeg a2) (p + 3) ((x_wA m (p + 2) (m.1 p 3).toNatClampNeg a2).1 p 3).toNatClampNeg a3).1 p 3) 59 = true then (if x_ix (60 + (m.1 p 3)) 119 = true then some (60 + (m.1 p 3), x_wS (x_wA (x_wA (x_wA (x_wA m (p + 2) (m.1 p 3).toNatClampNeg a2) (p + 3) ((x_wA m (p + 2) (m.1 p 3).toNatClampNeg a2).1 p 3).toNatClampNeg a3) (p + 4) ((x_wA (x_wA m (p + 2) (m.1 p 3).toNatClampNeg a2) (p + 3) ((x_wA m (p + 2) (m.1 p 3).toNatClampNeg a2).1 p 3).toNatClampNeg a3).1 p 3).toNatClampNeg (vp_nar .boolean a1)) (p + 5) (60 + (m.1 p 3)).toNatClampNeg (vp_nar .boolean 0)) p 3 (((x_wA (x_wA (x_wA (x_wA m (p + 2) (m.1 p 3).toNatClampNeg a2) (p + 3) ((x_wA m (p + 2) (m.1 p 3).toNatClampNeg a2).1 p 3).toNatClampNeg a3) (p + 4) ((x_wA (x_wA m (p + 2) (m.1 p 3).toNatClampNeg a2) (p + 3) ((x_wA m (p + 2) (m.1 p 3).toNatClampNeg a2).1 p 3).toNatClampNeg a3).1 p 3).toNatClampNeg (vp_nar .boolean a1)) (p + 5) (60 + (m.1 p 3)).toNatClampNeg (vp_nar .boolean 0)).1 p 3) + 1)) else none) else none) else none) else none) else B_CN_join_14 p a3 m))
theorem c_CN_join {G : x_G} {ex : Bool} {r : Int32 × x_m} {p : Nat} (hp : x_CN p) {a1 : Int32} {a2 : Int32} {a3 : Int32} {m : x_m} (h : F_CN_join p a1 a2 a3 m = some r) : x_R G M_CN_join (x_rd 0) ex [.ref p, .int a1, .int a2, .int a3] x_np (x_hp m) (x_pi r) := by
  unfold F_CN_join at h
  show x_W G M_CN_join (x_rd 0) (x_Q G (x_rd 0) ex (x_pi r)) ex x_np (x_hp m) 0 0 [(0, .ref p), (1, .int a1), (2, .int a2), (3, .int a3)] [] 0
  refine x_iload_n d_CN_join_0 rfl rfl ?_
  refine x_iconst (v := (-1)) d_CN_join_1 (by decide) ?_
  refine x_icmp_eq (tgt := 14) d_CN_join_2 (by decide) (fun c_ => ?_) (fun c_ => ?_)
  · replace h := x_it h c_
    refine x_sbk [3] (lv2 := [(3, .int a3)]) rfl ?_; exact b_CN_join_14 hp h
  · replace h := x_ie h c_
    refine x_aload_n d_CN_join_5 rfl rfl ?_
    refine x_gI d_CN_join_6 (f_CN_48 rfl) (sh_CN hp) (hp_CN hp) rfl ?_
    refine x_bipush (v := 59) d_CN_join_9 (by decide) ?_
    refine x_icmp_lt (tgt := 16) d_CN_join_11 (by decide) (fun c_ => ?_) (fun c_ => ?_)
    · replace h := x_it h c_
      refine x_bipush (v := 60) d_CN_join_16 (by decide) ?_
      refine x_aload_n d_CN_join_18 rfl rfl ?_
      refine x_gI d_CN_join_19 (f_CN_48 rfl) (sh_CN hp) (hp_CN hp) rfl ?_
      refine x_iadd d_CN_join_22 ?_
      refine x_istore (lv2 := [(0, .ref p), (1, .int a1), (2, .int a2), (3, .int a3), (4, .int (60 + (m.1 p 3)))]) d_CN_join_23 (by decide) rfl ?_
      refine x_aload_n d_CN_join_25 rfl rfl ?_
      refine x_gC d_CN_join_26 (f_CN_17 rfl) (sh_CN hp) (hp_CN hp) rfl ?_
      refine x_aload_n d_CN_join_29 rfl rfl ?_
      refine x_gI d_CN_join_30 (f_CN_48 rfl) (sh_CN hp) (hp_CN hp) rfl ?_
      refine x_iload_n d_CN_join_33 rfl rfl ?_
      obtain ⟨g_34, h⟩ := x_gd h
      refine x_sI d_CN_join_34 rfl (sa_CN_lefts hp) (ha_CN_lefts hp) g_34 ?_
      refine x_aload_n d_CN_join_35 rfl rfl ?_
      refine x_gC d_CN_join_36 (f_CN_21 rfl) (sh_CN hp) (hp_CN hp) rfl ?_
      refine x_aload_n d_CN_join_39 rfl rfl ?_
      refine x_gI d_CN_join_40 (f_CN_48 rfl) (sh_CN hp) (hp_CN hp) rfl ?_
      refine x_iload_n d_CN_join_43 rfl rfl ?_
      obtain ⟨g_44, h⟩ := x_gd h
      refine x_sI d_CN_join_44 rfl (sa_CN_rights hp) (ha_CN_rights hp) g_44 ?_
      refine x_aload_n d_CN_join_45 rfl rfl ?_
      refine x_gC d_CN_join_46 (f_CN_24 rfl) (sh_CN hp) (hp_CN hp) rfl ?_
      refine x_aload_n d_CN_join_49 rfl rfl ?_
      refine x_gI d_CN_join_50 (f_CN_48 rfl) (sh_CN hp) (hp_CN hp) rfl ?_
      refine x_iload_n d_CN_join_53 rfl rfl ?_
      obtain ⟨g_54, h⟩ := x_gd h
      refine x_sZ d_CN_join_54 rfl (sa_CN_isAnd hp) (ha_CN_isAnd hp) g_54 ?_
      refine x_aload_n d_CN_join_55 rfl rfl ?_
      refine x_gC d_CN_join_56 (f_CN_28 rfl) (sh_CN hp) (hp_CN hp) rfl ?_
      refine x_iload d_CN_join_59 rfl ?_
      refine x_iconst (v := 0) d_CN_join_61 (by decide) ?_
      obtain ⟨g_62, h⟩ := x_gd h
      refine x_sZ d_CN_join_62 rfl (sa_CN_isNegated hp) (ha_CN_isNegated hp) g_62 ?_
      refine x_aload_n d_CN_join_63 rfl rfl ?_
      refine x_dup d_CN_join_64 rfl ?_
      refine x_gI d_CN_join_65 (f_CN_48 rfl) (sh_CN hp) (hp_CN hp) rfl ?_
      refine x_iconst (v := 1) d_CN_join_68 (by decide) ?_
      refine x_iadd d_CN_join_69 ?_
      refine x_pI d_CN_join_70 (f_CN_48 rfl) tb_CN rfl (sh_CN hp) (hp_CN hp) rfl ⟨rfl, rfl⟩ ?_
      refine x_iload d_CN_join_73 rfl ?_
      cases h
      exact x_ri d_CN_join_75 rfl rfl
    · replace h := x_ie h c_
      refine x_sbk [3] (lv2 := [(3, .int a3)]) rfl ?_; exact b_CN_join_14 hp h
def B_CN_attach_42 (p : Nat)  (l1 : Int32) (m : x_m) : Option (x_m) := (if x_ix (m.1 p 1) 41 = true then ((F_CN_join p 1 (m.2.1 (p + 8) (m.1 p 1).toNatClampNeg) l1 m).bind fun r62 => (if x_ix (m.1 p 1) 41 = true then some (x_wA r62.2 (p + 8) (m.1 p 1).toNatClampNeg r62.1) else none)) else none)
theorem b_CN_attach_42 {G : x_G} {ex : Bool} {r : x_m} {p : Nat} (hp : x_CN p)  {l1 : Int32} {m : x_m} (h : B_CN_attach_42 p l1 m = some r) : x_W G M_CN_attach (x_rd 1) (x_Q G (x_rd 1) ex (x_pv r)) ex x_np (x_hp m) 0 0 [(0, .ref p), (1, .int l1)] [] 42 := by
  unfold B_CN_attach_42 at h
  refine x_aload_n d_CN_attach_42 rfl rfl ?_
  refine x_gC d_CN_attach_43 (f_CN_37 rfl) (sh_CN hp) (hp_CN hp) rfl ?_
  refine x_aload_n d_CN_attach_46 rfl rfl ?_
  refine x_gI d_CN_attach_47 (f_CN_51 rfl) (sh_CN hp) (hp_CN hp) rfl ?_
  refine x_aload_n d_CN_attach_50 rfl rfl ?_
  refine x_iconst (v := 1) d_CN_attach_51 (by decide) ?_
  refine x_aload_n d_CN_attach_52 rfl rfl ?_
  refine x_gC d_CN_attach_53 (f_CN_37 rfl) (sh_CN hp) (hp_CN hp) rfl ?_
  refine x_aload_n d_CN_attach_56 rfl rfl ?_
  refine x_gI d_CN_attach_57 (f_CN_51 rfl) (sh_CN hp) (hp_CN hp) rfl ?_
  obtain ⟨g_60, h⟩ := x_gd h
  refine x_lI d_CN_attach_60 rfl (sa_CN_beforeAnd hp) (ha_CN_beforeAnd hp) g_60 ?_
  refine x_iload_n d_CN_attach_61 rfl rfl ?_
  obtain ⟨r62, e62, h⟩ := x_bd h
  refine x_cVi (M2 := M_CN_join) (As := [.int 1, .int (m.2.1 (p + 8) (m.1 p 1).toNatClampNeg), .int l1]) (st := [.int (m.1 p 1), .ref (p + 8)]) d_CN_attach_62 w_619 k_CN_join (c_CN_join hp e62) rfl (sh_CN hp) (hp_CN hp) rfl ⟨Nat.le_of_ble_eq_true rfl, Nat.le_of_ble_eq_true rfl⟩ (Nat.le_of_ble_eq_true rfl) (Nat.le_of_ble_eq_true rfl) rfl ?_
  obtain ⟨g_65, h⟩ := x_gd h
  refine x_sI d_CN_attach_65 rfl (sa_CN_beforeAnd hp) (ha_CN_beforeAnd hp) g_65 ?_
  cases h
  exact x_rv d_CN_attach_66 rfl
def B_CN_attach_31 (p : Nat)  (l1 : Int32) (s0 : Int32) (s1 : Int32) (m : x_m) : Option (x_m) := (if x_ix s1 119 = true then (if x_ix ((x_wA m (p + 5) s1.toNatClampNeg (vp_nar .boolean s0)).1 p 1) 41 = true then B_CN_attach_42 p l1 (x_wA (x_wA m (p + 5) s1.toNatClampNeg (vp_nar .boolean s0)) (p + 9) ((x_wA m (p + 5) s1.toNatClampNeg (vp_nar .boolean s0)).1 p 1).toNatClampNeg (vp_nar .boolean 0)) else none) else none)
theorem b_CN_attach_31 {G : x_G} {ex : Bool} {r : x_m} {p : Nat} (hp : x_CN p)  {l1 : Int32} {s0 : Int32} {s1 : Int32} {m : x_m} (h : B_CN_attach_31 p l1 s0 s1 m = some r) : x_W G M_CN_attach (x_rd 1) (x_Q G (x_rd 1) ex (x_pv r)) ex x_np (x_hp m) 0 0 [(0, .ref p), (1, .int l1)] [.int s0, .int s1, .ref (p + 5)] 31 := by
  unfold B_CN_attach_31 at h
  obtain ⟨g_31, h⟩ := x_gd h
  refine x_sZ d_CN_attach_31 rfl (sa_CN_isNegated hp) (ha_CN_isNegated hp) g_31 ?_
  refine x_aload_n d_CN_attach_32 rfl rfl ?_
  refine x_gC d_CN_attach_33 (f_CN_40 rfl) (sh_CN hp) (hp_CN hp) rfl ?_
  refine x_aload_n d_CN_attach_36 rfl rfl ?_
  refine x_gI d_CN_attach_37 (f_CN_51 rfl) (sh_CN hp) (hp_CN hp) rfl ?_
  refine x_iconst (v := 0) d_CN_attach_40 (by decide) ?_
  obtain ⟨g_41, h⟩ := x_gd h
  refine x_sZ d_CN_attach_41 rfl (sa_CN_isNotAhead hp) (ha_CN_isNotAhead hp) g_41 ?_
  exact b_CN_attach_42 hp h
def F_CN_attach (p : Nat) (a1 : Int32) (m : x_m) : Option (x_m) := (if x_ix (m.1 p 1) 41 = true then (if (m.2.1 (p + 9) (m.1 p 1).toNatClampNeg) = 0 then B_CN_attach_42 p a1 m else (if x_ix a1 119 = true then (if (m.2.1 (p + 5) a1.toNatClampNeg) = 0 then B_CN_attach_31 p a1 1 a1 m else B_CN_attach_31 p a1 0 a1 m) else none)) else none)
theorem c_CN_attach {G : x_G} {ex : Bool} {r : x_m} {p : Nat} (hp : x_CN p) {a1 : Int32} {m : x_m} (h : F_CN_attach p a1 m = some r) : x_R G M_CN_attach (x_rd 1) ex [.ref p, .int a1] x_np (x_hp m) (x_pv r) := by
  unfold F_CN_attach at h
  show x_W G M_CN_attach (x_rd 1) (x_Q G (x_rd 1) ex (x_pv r)) ex x_np (x_hp m) 0 0 [(0, .ref p), (1, .int a1)] [] 0
  refine x_aload_n d_CN_attach_0 rfl rfl ?_
  refine x_gC d_CN_attach_1 (f_CN_40 rfl) (sh_CN hp) (hp_CN hp) rfl ?_
  refine x_aload_n d_CN_attach_4 rfl rfl ?_
  refine x_gI d_CN_attach_5 (f_CN_51 rfl) (sh_CN hp) (hp_CN hp) rfl ?_
  obtain ⟨g_8, h⟩ := x_gd h
  refine x_lZ d_CN_attach_8 rfl (sa_CN_isNotAhead hp) (ha_CN_isNotAhead hp) g_8 ?_
  refine x_if_eq (tgt := 42) d_CN_attach_9 (by decide) (fun c_ => ?_) (fun c_ => ?_)
  · replace h := x_it h c_
    exact b_CN_attach_42 hp h
  · replace h := x_ie h c_
    refine x_aload_n d_CN_attach_12 rfl rfl ?_
    refine x_gC d_CN_attach_13 (f_CN_28 rfl) (sh_CN hp) (hp_CN hp) rfl ?_
    refine x_iload_n d_CN_attach_16 rfl rfl ?_
    refine x_aload_n d_CN_attach_17 rfl rfl ?_
    refine x_gC d_CN_attach_18 (f_CN_28 rfl) (sh_CN hp) (hp_CN hp) rfl ?_
    refine x_iload_n d_CN_attach_21 rfl rfl ?_
    obtain ⟨g_22, h⟩ := x_gd h
    refine x_lZ d_CN_attach_22 rfl (sa_CN_isNegated hp) (ha_CN_isNegated hp) g_22 ?_
    refine x_if_ne (tgt := 30) d_CN_attach_23 (by decide) (fun c_ => ?_) (fun c_ => ?_)
    · replace h := x_ie h c_
      refine x_iconst (v := 0) d_CN_attach_30 (by decide) ?_
      exact b_CN_attach_31 hp h
    · replace h := x_it h c_
      refine x_iconst (v := 1) d_CN_attach_26 (by decide) ?_
      refine x_goto (tgt := 31) d_CN_attach_27 (by decide) ?_
      exact b_CN_attach_31 hp h
def F_CN_addComing (p : Nat)  (m : x_m) : Option (x_m) := (if x_ix (m.1 p 0) 119 = true then ((F_CN_attach p (m.1 p 0) (x_wS (x_wA m (p + 5) (m.1 p 0).toNatClampNeg (vp_nar .boolean 0)) p 0 (((x_wA m (p + 5) (m.1 p 0).toNatClampNeg (vp_nar .boolean 0)).1 p 0) + 1))).bind fun r24 => some r24) else none)
theorem c_CN_addComing {G : x_G} {ex : Bool} {r : x_m} {p : Nat} (hp : x_CN p)  {m : x_m} (h : F_CN_addComing p m = some r) : x_R G M_CN_addComing (x_rd 2) ex [.ref p] x_np (x_hp m) (x_pv r) := by
  unfold F_CN_addComing at h
  show x_W G M_CN_addComing (x_rd 2) (x_Q G (x_rd 2) ex (x_pv r)) ex x_np (x_hp m) 0 0 [(0, .ref p)] [] 0
  refine x_aload_n d_CN_addComing_0 rfl rfl ?_
  refine x_gI d_CN_addComing_1 (f_CN_44 rfl) (sh_CN hp) (hp_CN hp) rfl ?_
  refine x_istore_n (lv2 := [(0, .ref p), (1, .int (m.1 p 0))]) d_CN_addComing_4 rfl (by decide) rfl ?_
  refine x_aload_n d_CN_addComing_5 rfl rfl ?_
  refine x_gC d_CN_addComing_6 (f_CN_28 rfl) (sh_CN hp) (hp_CN hp) rfl ?_
  refine x_iload_n d_CN_addComing_9 rfl rfl ?_
  refine x_iconst (v := 0) d_CN_addComing_10 (by decide) ?_
  obtain ⟨g_11, h⟩ := x_gd h
  refine x_sZ d_CN_addComing_11 rfl (sa_CN_isNegated hp) (ha_CN_isNegated hp) g_11 ?_
  refine x_aload_n d_CN_addComing_12 rfl rfl ?_
  refine x_dup d_CN_addComing_13 rfl ?_
  refine x_gI d_CN_addComing_14 (f_CN_44 rfl) (sh_CN hp) (hp_CN hp) rfl ?_
  refine x_iconst (v := 1) d_CN_addComing_17 (by decide) ?_
  refine x_iadd d_CN_addComing_18 ?_
  refine x_pI d_CN_addComing_19 (f_CN_44 rfl) tb_CN rfl (sh_CN hp) (hp_CN hp) rfl ⟨rfl, rfl⟩ ?_
  refine x_aload_n d_CN_addComing_22 rfl rfl ?_
  refine x_iload_n d_CN_addComing_23 rfl rfl ?_
  obtain ⟨r24, e24, h⟩ := x_bd h
  refine x_cVv (M2 := M_CN_attach) (As := [.int (m.1 p 0)]) (st := []) d_CN_addComing_24 w_615 k_CN_attach (c_CN_attach hp e24) rfl (sh_CN hp) (hp_CN hp) rfl ⟨Nat.le_of_ble_eq_true rfl, Nat.le_of_ble_eq_true rfl⟩ (Nat.le_of_ble_eq_true rfl) (Nat.le_of_ble_eq_true rfl) rfl ?_
  cases h
  exact x_rv d_CN_addComing_27 rfl
def F_CN_endLine (p : Nat)  (m : x_m) : Option (Int32 × x_m) := (if x_ix (m.1 p 1) 41 = true then (if x_ix (m.1 p 1) 41 = true then ((F_CN_join p 0 (m.2.1 (p + 7) (m.1 p 1).toNatClampNeg) (m.2.1 (p + 8) (m.1 p 1).toNatClampNeg) m).bind fun r20 => some (r20.1, r20.2)) else none) else none)
theorem c_CN_endLine {G : x_G} {ex : Bool} {r : Int32 × x_m} {p : Nat} (hp : x_CN p)  {m : x_m} (h : F_CN_endLine p m = some r) : x_R G M_CN_endLine (x_rd 1) ex [.ref p] x_np (x_hp m) (x_pi r) := by
  unfold F_CN_endLine at h
  show x_W G M_CN_endLine (x_rd 1) (x_Q G (x_rd 1) ex (x_pi r)) ex x_np (x_hp m) 0 0 [(0, .ref p)] [] 0
  refine x_aload_n d_CN_endLine_0 rfl rfl ?_
  refine x_iconst (v := 0) d_CN_endLine_1 (by decide) ?_
  refine x_aload_n d_CN_endLine_2 rfl rfl ?_
  refine x_gC d_CN_endLine_3 (f_CN_34 rfl) (sh_CN hp) (hp_CN hp) rfl ?_
  refine x_aload_n d_CN_endLine_6 rfl rfl ?_
  refine x_gI d_CN_endLine_7 (f_CN_51 rfl) (sh_CN hp) (hp_CN hp) rfl ?_
  obtain ⟨g_10, h⟩ := x_gd h
  refine x_lI d_CN_endLine_10 rfl (sa_CN_beforeOr hp) (ha_CN_beforeOr hp) g_10 ?_
  refine x_aload_n d_CN_endLine_11 rfl rfl ?_
  refine x_gC d_CN_endLine_12 (f_CN_37 rfl) (sh_CN hp) (hp_CN hp) rfl ?_
  refine x_aload_n d_CN_endLine_15 rfl rfl ?_
  refine x_gI d_CN_endLine_16 (f_CN_51 rfl) (sh_CN hp) (hp_CN hp) rfl ?_
  obtain ⟨g_19, h⟩ := x_gd h
  refine x_lI d_CN_endLine_19 rfl (sa_CN_beforeAnd hp) (ha_CN_beforeAnd hp) g_19 ?_
  obtain ⟨r20, e20, h⟩ := x_bd h
  refine x_cVi (M2 := M_CN_join) (As := [.int 0, .int (m.2.1 (p + 7) (m.1 p 1).toNatClampNeg), .int (m.2.1 (p + 8) (m.1 p 1).toNatClampNeg)]) (st := []) d_CN_endLine_20 w_619 k_CN_join (c_CN_join hp e20) rfl (sh_CN hp) (hp_CN hp) rfl ⟨Nat.le_of_ble_eq_true rfl, Nat.le_of_ble_eq_true rfl⟩ (Nat.le_of_ble_eq_true rfl) (Nat.le_of_ble_eq_true rfl) rfl ?_
  cases h
  exact x_ri d_CN_endLine_23 rfl rfl
def F_CN_finish (p : Nat)  (m : x_m) : Option (x_m) := ((F_CN_endLine p m).bind fun r1 => some r1.2)
theorem c_CN_finish {G : x_G} {ex : Bool} {r : x_m} {p : Nat} (hp : x_CN p)  {m : x_m} (h : F_CN_finish p m = some r) : x_R G M_CN_finish (x_rd 2) ex [.ref p] x_np (x_hp m) (x_pv r) := by
  unfold F_CN_finish at h
  show x_W G M_CN_finish (x_rd 2) (x_Q G (x_rd 2) ex (x_pv r)) ex x_np (x_hp m) 0 0 [(0, .ref p)] [] 0
  refine x_aload_n d_CN_finish_0 rfl rfl ?_
  obtain ⟨r1, e1, h⟩ := x_bd h
  refine x_cVi (M2 := M_CN_endLine) (As := []) (st := []) d_CN_finish_1 w_631 k_CN_endLine (c_CN_endLine hp e1) rfl (sh_CN hp) (hp_CN hp) rfl ⟨Nat.le_of_ble_eq_true rfl, Nat.le_of_ble_eq_true rfl⟩ (Nat.le_of_ble_eq_true rfl) (Nat.le_of_ble_eq_true rfl) rfl ?_
  refine x_pop d_CN_finish_4 rfl ?_
  cases h
  exact x_rv d_CN_finish_5 rfl
def B_CN_negateNext_25 (p : Nat)  (s0 : Int32) (s1 : Int32) (m : x_m) : Option (x_m) := (if x_ix s1 41 = true then some (x_wA m (p + 9) s1.toNatClampNeg (vp_nar .boolean s0)) else none)
theorem b_CN_negateNext_25 {G : x_G} {ex : Bool} {r : x_m} {p : Nat} (hp : x_CN p)  {s0 : Int32} {s1 : Int32} {m : x_m} (h : B_CN_negateNext_25 p s0 s1 m = some r) : x_W G M_CN_negateNext (x_rd 0) (x_Q G (x_rd 0) ex (x_pv r)) ex x_np (x_hp m) 0 0 [] [.int s0, .int s1, .ref (p + 9)] 25 := by
  unfold B_CN_negateNext_25 at h
  obtain ⟨g_25, h⟩ := x_gd h
  refine x_sZ d_CN_negateNext_25 rfl (sa_CN_isNotAhead hp) (ha_CN_isNotAhead hp) g_25 ?_
  cases h
  exact x_rv d_CN_negateNext_26 rfl
def F_CN_negateNext (p : Nat)  (m : x_m) : Option (x_m) := (if x_ix (m.1 p 1) 41 = true then (if (m.2.1 (p + 9) (m.1 p 1).toNatClampNeg) = 0 then B_CN_negateNext_25 p 1 (m.1 p 1) m else B_CN_negateNext_25 p 0 (m.1 p 1) m) else none)
theorem c_CN_negateNext {G : x_G} {ex : Bool} {r : x_m} {p : Nat} (hp : x_CN p)  {m : x_m} (h : F_CN_negateNext p m = some r) : x_R G M_CN_negateNext (x_rd 0) ex [.ref p] x_np (x_hp m) (x_pv r) := by
  unfold F_CN_negateNext at h
  show x_W G M_CN_negateNext (x_rd 0) (x_Q G (x_rd 0) ex (x_pv r)) ex x_np (x_hp m) 0 0 [(0, .ref p)] [] 0
  refine x_aload_n d_CN_negateNext_0 rfl rfl ?_
  refine x_gC d_CN_negateNext_1 (f_CN_40 rfl) (sh_CN hp) (hp_CN hp) rfl ?_
  refine x_aload_n d_CN_negateNext_4 rfl rfl ?_
  refine x_gI d_CN_negateNext_5 (f_CN_51 rfl) (sh_CN hp) (hp_CN hp) rfl ?_
  refine x_aload_n d_CN_negateNext_8 rfl rfl ?_
  refine x_gC d_CN_negateNext_9 (f_CN_40 rfl) (sh_CN hp) (hp_CN hp) rfl ?_
  refine x_aload_n d_CN_negateNext_12 rfl rfl ?_
  refine x_gI d_CN_negateNext_13 (f_CN_51 rfl) (sh_CN hp) (hp_CN hp) rfl ?_
  obtain ⟨g_16, h⟩ := x_gd h
  refine x_lZ d_CN_negateNext_16 rfl (sa_CN_isNotAhead hp) (ha_CN_isNotAhead hp) g_16 ?_
  refine x_if_ne (tgt := 24) d_CN_negateNext_17 (by decide) (fun c_ => ?_) (fun c_ => ?_)
  · replace h := x_ie h c_
    refine x_iconst (v := 0) d_CN_negateNext_24 (by decide) ?_
    refine x_sbk [] (lv2 := []) rfl ?_; exact b_CN_negateNext_25 hp h
  · replace h := x_it h c_
    refine x_iconst (v := 1) d_CN_negateNext_20 (by decide) ?_
    refine x_goto (tgt := 25) d_CN_negateNext_21 (by decide) ?_
    refine x_sbk [] (lv2 := []) rfl ?_; exact b_CN_negateNext_25 hp h
def F_CN_clearLine (p : Nat)  (m : x_m) : Option (x_m) := (if x_ix (m.1 p 1) 41 = true then (if x_ix ((x_wA m (p + 7) (m.1 p 1).toNatClampNeg ((-1))).1 p 1) 41 = true then (if x_ix ((x_wA (x_wA m (p + 7) (m.1 p 1).toNatClampNeg ((-1))) (p + 8) ((x_wA m (p + 7) (m.1 p 1).toNatClampNeg ((-1))).1 p 1).toNatClampNeg ((-1))).1 p 1) 41 = true then some (x_wA (x_wA (x_wA m (p + 7) (m.1 p 1).toNatClampNeg ((-1))) (p + 8) ((x_wA m (p + 7) (m.1 p 1).toNatClampNeg ((-1))).1 p 1).toNatClampNeg ((-1))) (p + 9) ((x_wA (x_wA m (p + 7) (m.1 p 1).toNatClampNeg ((-1))) (p + 8) ((x_wA m (p + 7) (m.1 p 1).toNatClampNeg ((-1))).1 p 1).toNatClampNeg ((-1))).1 p 1).toNatClampNeg (vp_nar .boolean 0)) else none) else none) else none)
theorem c_CN_clearLine {G : x_G} {ex : Bool} {r : x_m} {p : Nat} (hp : x_CN p)  {m : x_m} (h : F_CN_clearLine p m = some r) : x_R G M_CN_clearLine (x_rd 0) ex [.ref p] x_np (x_hp m) (x_pv r) := by
  unfold F_CN_clearLine at h
  show x_W G M_CN_clearLine (x_rd 0) (x_Q G (x_rd 0) ex (x_pv r)) ex x_np (x_hp m) 0 0 [(0, .ref p)] [] 0
  refine x_aload_n d_CN_clearLine_0 rfl rfl ?_
  refine x_gC d_CN_clearLine_1 (f_CN_34 rfl) (sh_CN hp) (hp_CN hp) rfl ?_
  refine x_aload_n d_CN_clearLine_4 rfl rfl ?_
  refine x_gI d_CN_clearLine_5 (f_CN_51 rfl) (sh_CN hp) (hp_CN hp) rfl ?_
  refine x_iconst (v := (-1)) d_CN_clearLine_8 (by decide) ?_
  obtain ⟨g_9, h⟩ := x_gd h
  refine x_sI d_CN_clearLine_9 rfl (sa_CN_beforeOr hp) (ha_CN_beforeOr hp) g_9 ?_
  refine x_aload_n d_CN_clearLine_10 rfl rfl ?_
  refine x_gC d_CN_clearLine_11 (f_CN_37 rfl) (sh_CN hp) (hp_CN hp) rfl ?_
  refine x_aload_n d_CN_clearLine_14 rfl rfl ?_
  refine x_gI d_CN_clearLine_15 (f_CN_51 rfl) (sh_CN hp) (hp_CN hp) rfl ?_
  refine x_iconst (v := (-1)) d_CN_clearLine_18 (by decide) ?_
  obtain ⟨g_19, h⟩ := x_gd h
  refine x_sI d_CN_clearLine_19 rfl (sa_CN_beforeAnd hp) (ha_CN_beforeAnd hp) g_19 ?_
  refine x_aload_n d_CN_clearLine_20 rfl rfl ?_
  refine x_gC d_CN_clearLine_21 (f_CN_40 rfl) (sh_CN hp) (hp_CN hp) rfl ?_
  refine x_aload_n d_CN_clearLine_24 rfl rfl ?_
  refine x_gI d_CN_clearLine_25 (f_CN_51 rfl) (sh_CN hp) (hp_CN hp) rfl ?_
  refine x_iconst (v := 0) d_CN_clearLine_28 (by decide) ?_
  obtain ⟨g_29, h⟩ := x_gd h
  refine x_sZ d_CN_clearLine_29 rfl (sa_CN_isNotAhead hp) (ha_CN_isNotAhead hp) g_29 ?_
  cases h
  exact x_rv d_CN_clearLine_30 rfl
def F_CN_openBracket (p : Nat)  (m : x_m) : Option (Int32 × x_m) := (if (m.1 p 1) < 40 then ((F_CN_clearLine p (x_wS m p 1 ((m.1 p 1) + 1))).bind fun r22 => some (1, r22)) else some (0, m))
theorem c_CN_openBracket {G : x_G} {ex : Bool} {r : Int32 × x_m} {p : Nat} (hp : x_CN p)  {m : x_m} (h : F_CN_openBracket p m = some r) : x_R G M_CN_openBracket (x_rd 1) ex [.ref p] x_np (x_hp m) (x_pi r) := by
  unfold F_CN_openBracket at h
  show x_W G M_CN_openBracket (x_rd 1) (x_Q G (x_rd 1) ex (x_pi r)) ex x_np (x_hp m) 0 0 [(0, .ref p)] [] 0
  refine x_aload_n d_CN_openBracket_0 rfl rfl ?_
  refine x_gI d_CN_openBracket_1 (f_CN_51 rfl) (sh_CN hp) (hp_CN hp) rfl ?_
  refine x_bipush (v := 40) d_CN_openBracket_4 (by decide) ?_
  refine x_icmp_lt (tgt := 11) d_CN_openBracket_6 (by decide) (fun c_ => ?_) (fun c_ => ?_)
  · replace h := x_it h c_
    refine x_aload_n d_CN_openBracket_11 rfl rfl ?_
    refine x_dup d_CN_openBracket_12 rfl ?_
    refine x_gI d_CN_openBracket_13 (f_CN_51 rfl) (sh_CN hp) (hp_CN hp) rfl ?_
    refine x_iconst (v := 1) d_CN_openBracket_16 (by decide) ?_
    refine x_iadd d_CN_openBracket_17 ?_
    refine x_pI d_CN_openBracket_18 (f_CN_51 rfl) tb_CN rfl (sh_CN hp) (hp_CN hp) rfl ⟨rfl, rfl⟩ ?_
    refine x_aload_n d_CN_openBracket_21 rfl rfl ?_
    obtain ⟨r22, e22, h⟩ := x_bd h
    refine x_cVv (M2 := M_CN_clearLine) (As := []) (st := []) d_CN_openBracket_22 w_382 k_CN_clearLine (c_CN_clearLine hp e22) rfl (sh_CN hp) (hp_CN hp) rfl ⟨Nat.le_of_ble_eq_true rfl, Nat.le_of_ble_eq_true rfl⟩ (Nat.le_of_ble_eq_true rfl) (Nat.le_of_ble_eq_true rfl) rfl ?_
    refine x_iconst (v := 1) d_CN_openBracket_25 (by decide) ?_
    cases h
    exact x_ri d_CN_openBracket_26 rfl rfl
  · replace h := x_ie h c_
    refine x_iconst (v := 0) d_CN_openBracket_9 (by decide) ?_
    cases h
    exact x_ri d_CN_openBracket_10 rfl rfl
def F_CN_startAlternative (p : Nat)  (m : x_m) : Option (x_m) := ((F_CN_endLine p m).bind fun r9 => (if x_ix (m.1 p 1) 41 = true then (if x_ix ((x_wA r9.2 (p + 7) (m.1 p 1).toNatClampNeg r9.1).1 p 1) 41 = true then some (x_wA (x_wA r9.2 (p + 7) (m.1 p 1).toNatClampNeg r9.1) (p + 8) ((x_wA r9.2 (p + 7) (m.1 p 1).toNatClampNeg r9.1).1 p 1).toNatClampNeg ((-1))) else none) else none))
theorem c_CN_startAlternative {G : x_G} {ex : Bool} {r : x_m} {p : Nat} (hp : x_CN p)  {m : x_m} (h : F_CN_startAlternative p m = some r) : x_R G M_CN_startAlternative (x_rd 2) ex [.ref p] x_np (x_hp m) (x_pv r) := by
  unfold F_CN_startAlternative at h
  show x_W G M_CN_startAlternative (x_rd 2) (x_Q G (x_rd 2) ex (x_pv r)) ex x_np (x_hp m) 0 0 [(0, .ref p)] [] 0
  refine x_aload_n d_CN_startAlternative_0 rfl rfl ?_
  refine x_gC d_CN_startAlternative_1 (f_CN_34 rfl) (sh_CN hp) (hp_CN hp) rfl ?_
  refine x_aload_n d_CN_startAlternative_4 rfl rfl ?_
  refine x_gI d_CN_startAlternative_5 (f_CN_51 rfl) (sh_CN hp) (hp_CN hp) rfl ?_
  refine x_aload_n d_CN_startAlternative_8 rfl rfl ?_
  obtain ⟨r9, e9, h⟩ := x_bd h
  refine x_cVi (M2 := M_CN_endLine) (As := []) (st := [.int (m.1 p 1), .ref (p + 7)]) d_CN_startAlternative_9 w_631 k_CN_endLine (c_CN_endLine hp e9) rfl (sh_CN hp) (hp_CN hp) rfl ⟨Nat.le_of_ble_eq_true rfl, Nat.le_of_ble_eq_true rfl⟩ (Nat.le_of_ble_eq_true rfl) (Nat.le_of_ble_eq_true rfl) rfl ?_
  obtain ⟨g_12, h⟩ := x_gd h
  refine x_sI d_CN_startAlternative_12 rfl (sa_CN_beforeOr hp) (ha_CN_beforeOr hp) g_12 ?_
  refine x_aload_n d_CN_startAlternative_13 rfl rfl ?_
  refine x_gC d_CN_startAlternative_14 (f_CN_37 rfl) (sh_CN hp) (hp_CN hp) rfl ?_
  refine x_aload_n d_CN_startAlternative_17 rfl rfl ?_
  refine x_gI d_CN_startAlternative_18 (f_CN_51 rfl) (sh_CN hp) (hp_CN hp) rfl ?_
  refine x_iconst (v := (-1)) d_CN_startAlternative_21 (by decide) ?_
  obtain ⟨g_22, h⟩ := x_gd h
  refine x_sI d_CN_startAlternative_22 rfl (sa_CN_beforeAnd hp) (ha_CN_beforeAnd hp) g_22 ?_
  cases h
  exact x_rv d_CN_startAlternative_23 rfl
def B_CN_closeBracket_27 (p : Nat)   (m : x_m) : Option (x_m) := some m
theorem b_CN_closeBracket_27 {G : x_G} {ex : Bool} {r : x_m} {p : Nat} (hp : x_CN p)   {m : x_m} (h : B_CN_closeBracket_27 p m = some r) : x_W G M_CN_closeBracket (x_rd 2) (x_Q G (x_rd 2) ex (x_pv r)) ex x_np (x_hp m) 0 0 [] [] 27 := by
  unfold B_CN_closeBracket_27 at h
  cases h
  exact x_rv d_CN_closeBracket_27 rfl
def F_CN_closeBracket (p : Nat)  (m : x_m) : Option (x_m) := (if (m.1 p 1) ≤ 0 then B_CN_closeBracket_27 p m else ((F_CN_endLine p m).bind fun r8 => ((F_CN_attach p r8.1 (x_wS r8.2 p 1 ((r8.2.1 p 1) - 1))).bind fun r24 => B_CN_closeBracket_27 p r24)))
theorem c_CN_closeBracket {G : x_G} {ex : Bool} {r : x_m} {p : Nat} (hp : x_CN p)  {m : x_m} (h : F_CN_closeBracket p m = some r) : x_R G M_CN_closeBracket (x_rd 2) ex [.ref p] x_np (x_hp m) (x_pv r) := by
  unfold F_CN_closeBracket at h
  show x_W G M_CN_closeBracket (x_rd 2) (x_Q G (x_rd 2) ex (x_pv r)) ex x_np (x_hp m) 0 0 [(0, .ref p)] [] 0
  refine x_aload_n d_CN_closeBracket_0 rfl rfl ?_
  refine x_gI d_CN_closeBracket_1 (f_CN_51 rfl) (sh_CN hp) (hp_CN hp) rfl ?_
  refine x_if_le (tgt := 27) d_CN_closeBracket_4 (by decide) (fun c_ => ?_) (fun c_ => ?_)
  · replace h := x_it h c_
    refine x_sbk [] (lv2 := []) rfl ?_; exact b_CN_closeBracket_27 hp h
  · replace h := x_ie h c_
    refine x_aload_n d_CN_closeBracket_7 rfl rfl ?_
    obtain ⟨r8, e8, h⟩ := x_bd h
    refine x_cVi (M2 := M_CN_endLine) (As := []) (st := []) d_CN_closeBracket_8 w_631 k_CN_endLine (c_CN_endLine hp e8) rfl (sh_CN hp) (hp_CN hp) rfl ⟨Nat.le_of_ble_eq_true rfl, Nat.le_of_ble_eq_true rfl⟩ (Nat.le_of_ble_eq_true rfl) (Nat.le_of_ble_eq_true rfl) rfl ?_
    refine x_istore_n (lv2 := [(0, .ref p), (1, .int r8.1)]) d_CN_closeBracket_11 rfl (by decide) rfl ?_
    refine x_aload_n d_CN_closeBracket_12 rfl rfl ?_
    refine x_dup d_CN_closeBracket_13 rfl ?_
    refine x_gI d_CN_closeBracket_14 (f_CN_51 rfl) (sh_CN hp) (hp_CN hp) rfl ?_
    refine x_iconst (v := 1) d_CN_closeBracket_17 (by decide) ?_
    refine x_isub d_CN_closeBracket_18 ?_
    refine x_pI d_CN_closeBracket_19 (f_CN_51 rfl) tb_CN rfl (sh_CN hp) (hp_CN hp) rfl ⟨rfl, rfl⟩ ?_
    refine x_aload_n d_CN_closeBracket_22 rfl rfl ?_
    refine x_iload_n d_CN_closeBracket_23 rfl rfl ?_
    obtain ⟨r24, e24, h⟩ := x_bd h
    refine x_cVv (M2 := M_CN_attach) (As := [.int r8.1]) (st := []) d_CN_closeBracket_24 w_615 k_CN_attach (c_CN_attach hp e24) rfl (sh_CN hp) (hp_CN hp) rfl ⟨Nat.le_of_ble_eq_true rfl, Nat.le_of_ble_eq_true rfl⟩ (Nat.le_of_ble_eq_true rfl) (Nat.le_of_ble_eq_true rfl) rfl ?_
    refine x_sbk [] (lv2 := []) rfl ?_; exact b_CN_closeBracket_27 hp h
def B_QG_readClosings_46 (q1 : Nat)   (m : x_m) : Option (x_m) := some m
theorem b_QG_readClosings_46 {G : x_G} {ex : Bool} {r : x_m} {q1 : Nat} (hq1 : x_CN q1)   {m : x_m} (h : B_QG_readClosings_46 q1 m = some r) : x_W G M_QG_readClosings (x_rd 3) (x_Q G (x_rd 3) ex (x_pv r)) ex x_np (x_hp m) 0 0 [] [] 46 := by
  unfold B_QG_readClosings_46 at h
  cases h
  exact x_rv d_QG_readClosings_46 rfl
def B_QG_readClosings_12 (q1 : Nat)  : Nat → Int32 → x_m → Option (x_m)
  | 0, _, _ => none
  | f_ + 1, l2, m => (if l2 ≤ 0 then B_QG_readClosings_46 q1 m else (if x_kv (m.2.2.1 3 1) = true then (if (m.2.2.1 3 1) = (x_N + 6) then ((F_CN_closeBracket q1 m).bind fun r30 => ((F_LX_advance r30).bind fun r37 => (B_QG_readClosings_12 q1 f_) (l2 + (-1)) r37)) else B_QG_readClosings_46 q1 m) else none))
theorem b_QG_readClosings_12 {G : x_G} {ex : Bool} {r : x_m} {q1 : Nat} (hq1 : x_CN q1)  : ∀ (f_ : Nat) (l2 : Int32) (m : x_m), B_QG_readClosings_12 q1 f_ l2 m = some r → x_W G M_QG_readClosings (x_rd 3) (x_Q G (x_rd 3) ex (x_pv r)) ex x_np (x_hp m) 0 0 [(0, .ref 114), (1, .ref q1), (2, .int l2)] [] 12 := by
  intro f_
  induction f_ with
  | zero => intro l2 m h; exact nomatch h
  | succ f_ ih =>
    intro l2 m h
    rw [B_QG_readClosings_12] at h
    have hK12 := ih
    refine x_iload_n d_QG_readClosings_12 rfl rfl ?_
    refine x_if_le (tgt := 46) d_QG_readClosings_13 (by decide) (fun c_ => ?_) (fun c_ => ?_)
    · replace h := x_it h c_
      refine x_sbk [] (lv2 := []) rfl ?_; exact b_QG_readClosings_46 hq1 h
    · replace h := x_ie h c_
      refine x_aload_n d_QG_readClosings_16 rfl rfl ?_
      refine x_gC d_QG_readClosings_17 (f_QG_21 rfl) sh_QG hp_QG rfl ?_
      refine x_gR d_QG_readClosings_20 (f_QG_53 rfl) sh_LX hp_LX rfl ?_
      refine x_gets (i := 6) d_QG_readClosings_23 (by decide) w_513 ?_
      obtain ⟨g_26_0, h⟩ := x_gd h
      refine x_kacmp_ne (tgt := 46) d_QG_readClosings_26 (by decide) g_26_0 (x_kvN 6 (by decide)) (fun c_ => ?_) (fun c_ => ?_)
      · replace h := x_ie h c_
        refine x_sbk [] (lv2 := []) rfl ?_; exact b_QG_readClosings_46 hq1 h
      · replace h := x_it h c_
        refine x_aload_n d_QG_readClosings_29 rfl rfl ?_
        obtain ⟨r30, e30, h⟩ := x_bd h
        refine x_cVv (M2 := M_CN_closeBracket) (As := []) (st := []) d_QG_readClosings_30 w_627 k_CN_closeBracket (c_CN_closeBracket hq1 e30) rfl (sh_CN hq1) (hp_CN hq1) rfl ⟨Nat.le_of_ble_eq_true rfl, Nat.le_of_ble_eq_true rfl⟩ (Nat.le_of_ble_eq_true rfl) (Nat.le_of_ble_eq_true rfl) rfl ?_
        refine x_aload_n d_QG_readClosings_33 rfl rfl ?_
        refine x_gC d_QG_readClosings_34 (f_QG_21 rfl) sh_QG hp_QG rfl ?_
        obtain ⟨r37, e37, h⟩ := x_bd h
        refine x_cVv (M2 := M_LX_advance) (As := []) (st := []) d_QG_readClosings_37 w_451 k_LX_advance (c_LX_advance e37) rfl sh_LX hp_LX rfl ⟨Nat.le_of_ble_eq_true rfl, Nat.le_of_ble_eq_true rfl⟩ (Nat.le_of_ble_eq_true rfl) (Nat.le_of_ble_eq_true rfl) rfl ?_
        refine x_iinc (v := l2 + (-1)) (lv2 := [(0, .ref 114), (1, .ref q1), (2, .int (l2 + (-1)))]) d_QG_readClosings_40 rfl rfl (by decide) rfl ?_
        refine x_goto (tgt := 12) d_QG_readClosings_43 (by decide) ?_
        exact hK12 _ _ h
def F_QG_readClosings (q1 : Nat)  (m : x_m) : Option (x_m) := ((F_LX_advance m).bind fun r4 => B_QG_readClosings_12 q1 x_fu (r4.1 q1 1) r4)
theorem c_QG_readClosings {G : x_G} {ex : Bool} {r : x_m} {q1 : Nat} (hq1 : x_CN q1)  {m : x_m} (h : F_QG_readClosings q1 m = some r) : x_R G M_QG_readClosings (x_rd 3) ex [.ref 114, .ref q1] x_np (x_hp m) (x_pv r) := by
  unfold F_QG_readClosings at h
  show x_W G M_QG_readClosings (x_rd 3) (x_Q G (x_rd 3) ex (x_pv r)) ex x_np (x_hp m) 0 0 [(0, .ref 114), (1, .ref q1)] [] 0
  refine x_aload_n d_QG_readClosings_0 rfl rfl ?_
  refine x_gC d_QG_readClosings_1 (f_QG_21 rfl) sh_QG hp_QG rfl ?_
  obtain ⟨r4, e4, h⟩ := x_bd h
  refine x_cVv (M2 := M_LX_advance) (As := []) (st := []) d_QG_readClosings_4 w_451 k_LX_advance (c_LX_advance e4) rfl sh_LX hp_LX rfl ⟨Nat.le_of_ble_eq_true rfl, Nat.le_of_ble_eq_true rfl⟩ (Nat.le_of_ble_eq_true rfl) (Nat.le_of_ble_eq_true rfl) rfl ?_
  refine x_aload_n d_QG_readClosings_7 rfl rfl ?_
  refine x_gI d_QG_readClosings_8 (f_QG_199 rfl) (sh_CN hq1) (hp_CN hq1) rfl ?_
  refine x_istore_n (lv2 := [(0, .ref 114), (1, .ref q1), (2, .int (r4.1 q1 1))]) d_QG_readClosings_11 rfl (by decide) rfl ?_
  exact b_QG_readClosings_12 hq1 _ _ _ h
def F_CN_coming (p : Nat)  (m : x_m) : Option (Nat × x_m) := (if x_ix (m.1 p 0) 60 = true then some (p + 10 + 2 * (m.1 p 0).toNatClampNeg, m) else none)
theorem c_CN_coming {G : x_G} {ex : Bool} {r : Nat × x_m} {p : Nat} (hp : x_CN p)  {m : x_m} (h : F_CN_coming p m = some r) : x_R G M_CN_coming (x_rd 0) ex [.ref p] x_np (x_hp m) (x_pr r) := by
  unfold F_CN_coming at h
  show x_W G M_CN_coming (x_rd 0) (x_Q G (x_rd 0) ex (x_pr r)) ex x_np (x_hp m) 0 0 [(0, .ref p)] [] 0
  refine x_aload_n d_CN_coming_0 rfl rfl ?_
  refine x_gC d_CN_coming_1 (f_CN_13 rfl) (sh_CN hp) (hp_CN hp) rfl ?_
  refine x_aload_n d_CN_coming_4 rfl rfl ?_
  refine x_gI d_CN_coming_5 (f_CN_44 rfl) (sh_CN hp) (hp_CN hp) rfl ?_
  obtain ⟨g_8, h⟩ := x_gd h
  refine x_lR (b := p + 10 + 2 * (m.1 p 0).toNatClampNeg) d_CN_coming_8 rfl (sa_CN_comparisons hp) (ha_CN_comparisons hp) g_8 (if_pos (x_ix_lt g_8)) ?_
  cases h
  exact x_rr d_CN_coming_9 rfl (Or.inl ⟨_, rfl⟩)
def B_CN_isFull_14 (p : Nat)  (s0 : Int32) (m : x_m) : Option (Int32 × x_m) := (if x_b1 s0 = true then some (s0, m) else none)
theorem b_CN_isFull_14 {G : x_G} {ex : Bool} {r : Int32 × x_m} {p : Nat} (hp : x_CN p)  {s0 : Int32} {m : x_m} (h : B_CN_isFull_14 p s0 m = some r) : x_W G M_CN_isFull (x_rd 0) (x_Q G (x_rd 0) ex (x_pi r)) ex x_np (x_hp m) 0 0 [] [.int s0] 14 := by
  unfold B_CN_isFull_14 at h
  obtain ⟨g_14, h⟩ := x_gd h
  cases h
  exact x_ri d_CN_isFull_14 rfl (x_b1_ok g_14).1
def F_CN_isFull (p : Nat)  (m : x_m) : Option (Int32 × x_m) := (if (m.1 p 0) < 60 then B_CN_isFull_14 p 0 m else B_CN_isFull_14 p 1 m)
theorem c_CN_isFull {G : x_G} {ex : Bool} {r : Int32 × x_m} {p : Nat} (hp : x_CN p)  {m : x_m} (h : F_CN_isFull p m = some r) : x_R G M_CN_isFull (x_rd 0) ex [.ref p] x_np (x_hp m) (x_pi r) := by
  unfold F_CN_isFull at h
  show x_W G M_CN_isFull (x_rd 0) (x_Q G (x_rd 0) ex (x_pi r)) ex x_np (x_hp m) 0 0 [(0, .ref p)] [] 0
  refine x_aload_n d_CN_isFull_0 rfl rfl ?_
  refine x_gI d_CN_isFull_1 (f_CN_44 rfl) (sh_CN hp) (hp_CN hp) rfl ?_
  refine x_bipush (v := 60) d_CN_isFull_4 (by decide) ?_
  refine x_icmp_lt (tgt := 13) d_CN_isFull_6 (by decide) (fun c_ => ?_) (fun c_ => ?_)
  · replace h := x_it h c_
    refine x_iconst (v := 0) d_CN_isFull_13 (by decide) ?_
    refine x_sbk [] (lv2 := []) rfl ?_; exact b_CN_isFull_14 hp h
  · replace h := x_ie h c_
    refine x_iconst (v := 1) d_CN_isFull_9 (by decide) ?_
    refine x_goto (tgt := 14) d_CN_isFull_10 (by decide) ?_
    refine x_sbk [] (lv2 := []) rfl ?_; exact b_CN_isFull_14 hp h
def F_CP_restart (p : Nat) (a1 : Int32) (m : x_m) : Option (x_m) := some (x_wS (x_wS (x_wS m p 0 a1) p 1 0) p 4 0)
theorem c_CP_restart {G : x_G} {ex : Bool} {r : x_m} {p : Nat} (hp : x_CP p) {a1 : Int32} {m : x_m} (h : F_CP_restart p a1 m = some r) : x_R G M_CP_restart (x_rd 0) ex [.ref p, .int a1] x_np (x_hp m) (x_pv r) := by
  unfold F_CP_restart at h
  show x_W G M_CP_restart (x_rd 0) (x_Q G (x_rd 0) ex (x_pv r)) ex x_np (x_hp m) 0 0 [(0, .ref p), (1, .int a1)] [] 0
  refine x_aload_n d_CP_restart_0 rfl rfl ?_
  refine x_iload_n d_CP_restart_1 rfl rfl ?_
  refine x_pI d_CP_restart_2 (f_CP_13 rfl) tb_CP rfl (sh_CP hp) (hp_CP hp) rfl ⟨rfl, rfl⟩ ?_
  refine x_aload_n d_CP_restart_5 rfl rfl ?_
  refine x_iconst (v := 0) d_CP_restart_6 (by decide) ?_
  refine x_pI d_CP_restart_7 (f_CP_17 rfl) tb_CP rfl (sh_CP hp) (hp_CP hp) rfl ⟨rfl, rfl⟩ ?_
  refine x_aload_n d_CP_restart_10 rfl rfl ?_
  refine x_iconst (v := 0) d_CP_restart_11 (by decide) ?_
  refine x_pI d_CP_restart_12 (f_CP_21 rfl) tb_CP rfl (sh_CP hp) (hp_CP hp) rfl ⟨rfl, rfl⟩ ?_
  cases h
  exact x_rv d_CP_restart_15 rfl
def F_CP_becomeRange (p : Nat) (a1 : Int32) (a2 : Int32) (m : x_m) : Option (x_m) := some (x_wS (x_wS m p 2 a1) p 3 a2)
theorem c_CP_becomeRange {G : x_G} {ex : Bool} {r : x_m} {p : Nat} (hp : x_CP p) {a1 : Int32} {a2 : Int32} {m : x_m} (h : F_CP_becomeRange p a1 a2 m = some r) : x_R G M_CP_becomeRange (x_rd 0) ex [.ref p, .int a1, .int a2] x_np (x_hp m) (x_pv r) := by
  unfold F_CP_becomeRange at h
  show x_W G M_CP_becomeRange (x_rd 0) (x_Q G (x_rd 0) ex (x_pv r)) ex x_np (x_hp m) 0 0 [(0, .ref p), (1, .int a1), (2, .int a2)] [] 0
  refine x_aload_n d_CP_becomeRange_0 rfl rfl ?_
  refine x_iload_n d_CP_becomeRange_1 rfl rfl ?_
  refine x_pI d_CP_becomeRange_2 (f_CP_24 rfl) tb_CP rfl (sh_CP hp) (hp_CP hp) rfl ⟨rfl, rfl⟩ ?_
  refine x_aload_n d_CP_becomeRange_5 rfl rfl ?_
  refine x_iload_n d_CP_becomeRange_6 rfl rfl ?_
  refine x_pI d_CP_becomeRange_7 (f_CP_27 rfl) tb_CP rfl (sh_CP hp) (hp_CP hp) rfl ⟨rfl, rfl⟩ ?_
  cases h
  exact x_rv d_CP_becomeRange_10 rfl
def B_QG_readBetween_49 (q1 : Nat)   (m : x_m) : Option (Int32 × x_m) := some (0, m)
theorem b_QG_readBetween_49 {G : x_G} {ex : Bool} {r : Int32 × x_m} {q1 : Nat} (hq1 : x_CP q1)   {m : x_m} (h : B_QG_readBetween_49 q1 m = some r) : x_W G M_QG_readBetween (x_rd 3) (x_Q G (x_rd 3) ex (x_pi r)) ex x_np (x_hp m) 0 0 [] [] 49 := by
  unfold B_QG_readBetween_49 at h
  refine x_iconst (v := 0) d_QG_readBetween_49 (by decide) ?_
  cases h
  exact x_ri d_QG_readBetween_50 rfl rfl
def F_QG_readBetween (q1 : Nat)  (m : x_m) : Option (Int32 × x_m) := ((F_LX_next (x_N + 2) m).bind fun r7 => (if r7.1 = 0 then some (0, r7.2) else ((F_LX_next (x_N + 31) r7.2).bind fun r30 => (if r30.1 = 0 then B_QG_readBetween_49 q1 r30.2 else ((F_LX_next (x_N + 2) r30.2).bind fun r43 => (if r43.1 = 0 then B_QG_readBetween_49 q1 r43.2 else ((F_CP_becomeRange q1 (r7.2.1 3 4) (r43.2.1 3 4) r43.2).bind fun r60 => some (1, r60))))))))
theorem c_QG_readBetween {G : x_G} {ex : Bool} {r : Int32 × x_m} {q1 : Nat} (hq1 : x_CP q1)  {m : x_m} (h : F_QG_readBetween q1 m = some r) : x_R G M_QG_readBetween (x_rd 3) ex [.ref 114, .ref q1] x_np (x_hp m) (x_pi r) := by
  unfold F_QG_readBetween at h
  show x_W G M_QG_readBetween (x_rd 3) (x_Q G (x_rd 3) ex (x_pi r)) ex x_np (x_hp m) 0 0 [(0, .ref 114), (1, .ref q1)] [] 0
  refine x_aload_n d_QG_readBetween_0 rfl rfl ?_
  refine x_gC d_QG_readBetween_1 (f_QG_21 rfl) sh_QG hp_QG rfl ?_
  refine x_gets (i := 2) d_QG_readBetween_4 (by decide) w_560 ?_
  obtain ⟨r7, e7, h⟩ := x_bd h
  refine x_cVi (M2 := M_LX_next) (As := [.ref (x_N + 2)]) (st := []) d_QG_readBetween_7 w_492 k_LX_next (c_LX_next e7) rfl sh_LX hp_LX rfl ⟨Nat.le_of_ble_eq_true rfl, Nat.le_of_ble_eq_true rfl⟩ (Nat.le_of_ble_eq_true rfl) (Nat.le_of_ble_eq_true rfl) rfl ?_
  refine x_if_ne (tgt := 15) d_QG_readBetween_10 (by decide) (fun c_ => ?_) (fun c_ => ?_)
  · replace h := x_ie h c_
    refine x_aload_n d_QG_readBetween_15 rfl rfl ?_
    refine x_gC d_QG_readBetween_16 (f_QG_21 rfl) sh_QG hp_QG rfl ?_
    refine x_gI d_QG_readBetween_19 (f_QG_245 rfl) sh_LX hp_LX rfl ?_
    refine x_istore_n (lv2 := [(0, .ref 114), (1, .ref q1), (2, .int (r7.2.1 3 4))]) d_QG_readBetween_22 rfl (by decide) rfl ?_
    refine x_aload_n d_QG_readBetween_23 rfl rfl ?_
    refine x_gC d_QG_readBetween_24 (f_QG_21 rfl) sh_QG hp_QG rfl ?_
    refine x_gets (i := 31) d_QG_readBetween_27 (by decide) w_571 ?_
    obtain ⟨r30, e30, h⟩ := x_bd h
    refine x_cVi (M2 := M_LX_next) (As := [.ref (x_N + 31)]) (st := []) d_QG_readBetween_30 w_492 k_LX_next (c_LX_next e30) rfl sh_LX hp_LX rfl ⟨Nat.le_of_ble_eq_true rfl, Nat.le_of_ble_eq_true rfl⟩ (Nat.le_of_ble_eq_true rfl) (Nat.le_of_ble_eq_true rfl) rfl ?_
    refine x_if_eq (tgt := 49) d_QG_readBetween_33 (by decide) (fun c_ => ?_) (fun c_ => ?_)
    · replace h := x_it h c_
      refine x_sbk [] (lv2 := []) rfl ?_; exact b_QG_readBetween_49 hq1 h
    · replace h := x_ie h c_
      refine x_aload_n d_QG_readBetween_36 rfl rfl ?_
      refine x_gC d_QG_readBetween_37 (f_QG_21 rfl) sh_QG hp_QG rfl ?_
      refine x_gets (i := 2) d_QG_readBetween_40 (by decide) w_560 ?_
      obtain ⟨r43, e43, h⟩ := x_bd h
      refine x_cVi (M2 := M_LX_next) (As := [.ref (x_N + 2)]) (st := []) d_QG_readBetween_43 w_492 k_LX_next (c_LX_next e43) rfl sh_LX hp_LX rfl ⟨Nat.le_of_ble_eq_true rfl, Nat.le_of_ble_eq_true rfl⟩ (Nat.le_of_ble_eq_true rfl) (Nat.le_of_ble_eq_true rfl) rfl ?_
      refine x_if_ne (tgt := 51) d_QG_readBetween_46 (by decide) (fun c_ => ?_) (fun c_ => ?_)
      · replace h := x_ie h c_
        refine x_aload_n d_QG_readBetween_51 rfl rfl ?_
        refine x_iload_n d_QG_readBetween_52 rfl rfl ?_
        refine x_aload_n d_QG_readBetween_53 rfl rfl ?_
        refine x_gC d_QG_readBetween_54 (f_QG_21 rfl) sh_QG hp_QG rfl ?_
        refine x_gI d_QG_readBetween_57 (f_QG_245 rfl) sh_LX hp_LX rfl ?_
        obtain ⟨r60, e60, h⟩ := x_bd h
        refine x_cVv (M2 := M_CP_becomeRange) (As := [.int (r7.2.1 3 4), .int (r43.2.1 3 4)]) (st := []) d_QG_readBetween_60 w_573 k_CP_becomeRange (c_CP_becomeRange hq1 e60) rfl (sh_CP hq1) (hp_CP hq1) rfl ⟨Nat.le_of_ble_eq_true rfl, Nat.le_of_ble_eq_true rfl⟩ (Nat.le_of_ble_eq_true rfl) (Nat.le_of_ble_eq_true rfl) rfl ?_
        refine x_iconst (v := 1) d_QG_readBetween_63 (by decide) ?_
        cases h
        exact x_ri d_QG_readBetween_64 rfl rfl
      · replace h := x_it h c_
        refine x_sbk [] (lv2 := []) rfl ?_; exact b_QG_readBetween_49 hq1 h
  · replace h := x_it h c_
    refine x_iconst (v := 0) d_QG_readBetween_13 (by decide) ?_
    cases h
    exact x_ri d_QG_readBetween_14 rfl rfl
def F_CP_addToList (p : Nat) (a1 : Int32) (m : x_m) : Option (Int32 × x_m) := (if (m.1 p 4) < 40 then (if x_ix (m.1 p 4) 40 = true then some (1, x_wS (x_wA m (p + 1) (m.1 p 4).toNatClampNeg a1) p 4 (((x_wA m (p + 1) (m.1 p 4).toNatClampNeg a1).1 p 4) + 1)) else none) else some (0, m))
theorem c_CP_addToList {G : x_G} {ex : Bool} {r : Int32 × x_m} {p : Nat} (hp : x_CP p) {a1 : Int32} {m : x_m} (h : F_CP_addToList p a1 m = some r) : x_R G M_CP_addToList (x_rd 0) ex [.ref p, .int a1] x_np (x_hp m) (x_pi r) := by
  unfold F_CP_addToList at h
  show x_W G M_CP_addToList (x_rd 0) (x_Q G (x_rd 0) ex (x_pi r)) ex x_np (x_hp m) 0 0 [(0, .ref p), (1, .int a1)] [] 0
  refine x_aload_n d_CP_addToList_0 rfl rfl ?_
  refine x_gI d_CP_addToList_1 (f_CP_21 rfl) (sh_CP hp) (hp_CP hp) rfl ?_
  refine x_bipush (v := 40) d_CP_addToList_4 (by decide) ?_
  refine x_icmp_lt (tgt := 11) d_CP_addToList_6 (by decide) (fun c_ => ?_) (fun c_ => ?_)
  · replace h := x_it h c_
    refine x_aload_n d_CP_addToList_11 rfl rfl ?_
    refine x_gC d_CP_addToList_12 (f_CP_9 rfl) (sh_CP hp) (hp_CP hp) rfl ?_
    refine x_aload_n d_CP_addToList_15 rfl rfl ?_
    refine x_gI d_CP_addToList_16 (f_CP_21 rfl) (sh_CP hp) (hp_CP hp) rfl ?_
    refine x_iload_n d_CP_addToList_19 rfl rfl ?_
    obtain ⟨g_20, h⟩ := x_gd h
    refine x_sI d_CP_addToList_20 rfl (sa_CP_list hp) (ha_CP_list hp) g_20 ?_
    refine x_aload_n d_CP_addToList_21 rfl rfl ?_
    refine x_dup d_CP_addToList_22 rfl ?_
    refine x_gI d_CP_addToList_23 (f_CP_21 rfl) (sh_CP hp) (hp_CP hp) rfl ?_
    refine x_iconst (v := 1) d_CP_addToList_26 (by decide) ?_
    refine x_iadd d_CP_addToList_27 ?_
    refine x_pI d_CP_addToList_28 (f_CP_21 rfl) tb_CP rfl (sh_CP hp) (hp_CP hp) rfl ⟨rfl, rfl⟩ ?_
    refine x_iconst (v := 1) d_CP_addToList_31 (by decide) ?_
    cases h
    exact x_ri d_CP_addToList_32 rfl rfl
  · replace h := x_ie h c_
    refine x_iconst (v := 0) d_CP_addToList_9 (by decide) ?_
    cases h
    exact x_ri d_CP_addToList_10 rfl rfl
def B_QG_readList_17 (q1 : Nat)  : Nat → Int32 → x_m → Option (Int32 × x_m)
  | 0, _, _ => none
  | f_ + 1, l2, m => (if 40 < l2 then some (0, m) else ((F_LX_next (x_N + 2) m).bind fun r30 => (if r30.1 = 0 then some (0, r30.2) else ((F_CP_addToList q1 (r30.2.1 3 4) r30.2).bind fun r46 => (if r46.1 = 0 then ((F_LX_tellHere 7 r46.2).bind fun r58 => (if x_b1 r58.1 = true then some (r58.1, r58.2) else none)) else ((F_LX_advance r46.2).bind fun r66 => (if x_kv (r66.2.2.1 3 1) = true then (if (r66.2.2.1 3 1) = (x_N + 6) then some (1, r66) else ((F_LX_at (x_N + 7) r66).bind fun r91 => (if r91.1 = 0 then some (0, r91.2) else (B_QG_readList_17 q1 f_) (l2 + 1) r91.2))) else none)))))))
theorem b_QG_readList_17 {G : x_G} {ex : Bool} {r : Int32 × x_m} {q1 : Nat} (hq1 : x_CP q1)  : ∀ (f_ : Nat) (l2 : Int32) (m : x_m), B_QG_readList_17 q1 f_ l2 m = some r → x_W G M_QG_readList (x_rd 3) (x_Q G (x_rd 3) ex (x_pi r)) ex x_np (x_hp m) 0 0 [(0, .ref 114), (1, .ref q1), (2, .int l2)] [] 17 := by
  intro f_
  induction f_ with
  | zero => intro l2 m h; exact nomatch h
  | succ f_ ih =>
    intro l2 m h
    rw [B_QG_readList_17] at h
    have hK17 := ih
    refine x_iload_n d_QG_readList_17 rfl rfl ?_
    refine x_bipush (v := 40) d_QG_readList_18 (by decide) ?_
    refine x_icmp_gt (tgt := 105) d_QG_readList_20 (by decide) (fun c_ => ?_) (fun c_ => ?_)
    · replace h := x_it h c_
      refine x_iconst (v := 0) d_QG_readList_105 (by decide) ?_
      cases h
      exact x_ri d_QG_readList_106 rfl rfl
    · replace h := x_ie h c_
      refine x_aload_n d_QG_readList_23 rfl rfl ?_
      refine x_gC d_QG_readList_24 (f_QG_21 rfl) sh_QG hp_QG rfl ?_
      refine x_gets (i := 2) d_QG_readList_27 (by decide) w_560 ?_
      obtain ⟨r30, e30, h⟩ := x_bd h
      refine x_cVi (M2 := M_LX_next) (As := [.ref (x_N + 2)]) (st := []) d_QG_readList_30 w_492 k_LX_next (c_LX_next e30) rfl sh_LX hp_LX rfl ⟨Nat.le_of_ble_eq_true rfl, Nat.le_of_ble_eq_true rfl⟩ (Nat.le_of_ble_eq_true rfl) (Nat.le_of_ble_eq_true rfl) rfl ?_
      refine x_if_ne (tgt := 38) d_QG_readList_33 (by decide) (fun c_ => ?_) (fun c_ => ?_)
      · replace h := x_ie h c_
        refine x_aload_n d_QG_readList_38 rfl rfl ?_
        refine x_aload_n d_QG_readList_39 rfl rfl ?_
        refine x_gC d_QG_readList_40 (f_QG_21 rfl) sh_QG hp_QG rfl ?_
        refine x_gI d_QG_readList_43 (f_QG_245 rfl) sh_LX hp_LX rfl ?_
        obtain ⟨r46, e46, h⟩ := x_bd h
        refine x_cVi (M2 := M_CP_addToList) (As := [.int (r30.2.1 3 4)]) (st := []) d_QG_readList_46 w_561 k_CP_addToList (c_CP_addToList hq1 e46) rfl (sh_CP hq1) (hp_CP hq1) rfl ⟨Nat.le_of_ble_eq_true rfl, Nat.le_of_ble_eq_true rfl⟩ (Nat.le_of_ble_eq_true rfl) (Nat.le_of_ble_eq_true rfl) rfl ?_
        refine x_if_ne (tgt := 62) d_QG_readList_49 (by decide) (fun c_ => ?_) (fun c_ => ?_)
        · replace h := x_ie h c_
          refine x_aload_n d_QG_readList_62 rfl rfl ?_
          refine x_gC d_QG_readList_63 (f_QG_21 rfl) sh_QG hp_QG rfl ?_
          obtain ⟨r66, e66, h⟩ := x_bd h
          refine x_cVv (M2 := M_LX_advance) (As := []) (st := []) d_QG_readList_66 w_451 k_LX_advance (c_LX_advance e66) rfl sh_LX hp_LX rfl ⟨Nat.le_of_ble_eq_true rfl, Nat.le_of_ble_eq_true rfl⟩ (Nat.le_of_ble_eq_true rfl) (Nat.le_of_ble_eq_true rfl) rfl ?_
          refine x_aload_n d_QG_readList_69 rfl rfl ?_
          refine x_gC d_QG_readList_70 (f_QG_21 rfl) sh_QG hp_QG rfl ?_
          refine x_gR d_QG_readList_73 (f_QG_53 rfl) sh_LX hp_LX rfl ?_
          refine x_gets (i := 6) d_QG_readList_76 (by decide) w_513 ?_
          obtain ⟨g_79_0, h⟩ := x_gd h
          refine x_kacmp_ne (tgt := 84) d_QG_readList_79 (by decide) g_79_0 (x_kvN 6 (by decide)) (fun c_ => ?_) (fun c_ => ?_)
          · replace h := x_ie h c_
            refine x_aload_n d_QG_readList_84 rfl rfl ?_
            refine x_gC d_QG_readList_85 (f_QG_21 rfl) sh_QG hp_QG rfl ?_
            refine x_gets (i := 7) d_QG_readList_88 (by decide) w_519 ?_
            obtain ⟨r91, e91, h⟩ := x_bd h
            refine x_cVi (M2 := M_LX_at) (As := [.ref (x_N + 7)]) (st := []) d_QG_readList_91 w_512 k_LX_at (c_LX_at e91) rfl sh_LX hp_LX rfl ⟨Nat.le_of_ble_eq_true rfl, Nat.le_of_ble_eq_true rfl⟩ (Nat.le_of_ble_eq_true rfl) (Nat.le_of_ble_eq_true rfl) rfl ?_
            refine x_if_ne (tgt := 99) d_QG_readList_94 (by decide) (fun c_ => ?_) (fun c_ => ?_)
            · replace h := x_ie h c_
              refine x_iinc (v := l2 + 1) (lv2 := [(0, .ref 114), (1, .ref q1), (2, .int (l2 + 1))]) d_QG_readList_99 rfl rfl (by decide) rfl ?_
              refine x_goto (tgt := 17) d_QG_readList_102 (by decide) ?_
              exact hK17 _ _ h
            · replace h := x_it h c_
              refine x_iconst (v := 0) d_QG_readList_97 (by decide) ?_
              cases h
              exact x_ri d_QG_readList_98 rfl rfl
          · replace h := x_it h c_
            refine x_iconst (v := 1) d_QG_readList_82 (by decide) ?_
            cases h
            exact x_ri d_QG_readList_83 rfl rfl
        · replace h := x_it h c_
          refine x_aload_n d_QG_readList_52 rfl rfl ?_
          refine x_gC d_QG_readList_53 (f_QG_21 rfl) sh_QG hp_QG rfl ?_
          refine x_bipush (v := 7) d_QG_readList_56 (by decide) ?_
          obtain ⟨r58, e58, h⟩ := x_bd h
          refine x_cVi (M2 := M_LX_tellHere) (As := [.int 7]) (st := []) d_QG_readList_58 w_434 k_LX_tellHere (c_LX_tellHere e58) rfl sh_LX hp_LX rfl ⟨Nat.le_of_ble_eq_true rfl, Nat.le_of_ble_eq_true rfl⟩ (Nat.le_of_ble_eq_true rfl) (Nat.le_of_ble_eq_true rfl) rfl ?_
          obtain ⟨g_61, h⟩ := x_gd h
          cases h
          exact x_ri d_QG_readList_61 rfl (x_b1_ok g_61).1
      · replace h := x_it h c_
        refine x_iconst (v := 0) d_QG_readList_36 (by decide) ?_
        cases h
        exact x_ri d_QG_readList_37 rfl rfl
def F_QG_readList (q1 : Nat)  (m : x_m) : Option (Int32 × x_m) := ((F_LX_next (x_N + 5) m).bind fun r7 => (if r7.1 = 0 then some (0, r7.2) else B_QG_readList_17 q1 x_fu 0 r7.2))
theorem c_QG_readList {G : x_G} {ex : Bool} {r : Int32 × x_m} {q1 : Nat} (hq1 : x_CP q1)  {m : x_m} (h : F_QG_readList q1 m = some r) : x_R G M_QG_readList (x_rd 3) ex [.ref 114, .ref q1] x_np (x_hp m) (x_pi r) := by
  unfold F_QG_readList at h
  show x_W G M_QG_readList (x_rd 3) (x_Q G (x_rd 3) ex (x_pi r)) ex x_np (x_hp m) 0 0 [(0, .ref 114), (1, .ref q1)] [] 0
  refine x_aload_n d_QG_readList_0 rfl rfl ?_
  refine x_gC d_QG_readList_1 (f_QG_21 rfl) sh_QG hp_QG rfl ?_
  refine x_gets (i := 5) d_QG_readList_4 (by decide) w_504 ?_
  obtain ⟨r7, e7, h⟩ := x_bd h
  refine x_cVi (M2 := M_LX_next) (As := [.ref (x_N + 5)]) (st := []) d_QG_readList_7 w_492 k_LX_next (c_LX_next e7) rfl sh_LX hp_LX rfl ⟨Nat.le_of_ble_eq_true rfl, Nat.le_of_ble_eq_true rfl⟩ (Nat.le_of_ble_eq_true rfl) (Nat.le_of_ble_eq_true rfl) rfl ?_
  refine x_if_ne (tgt := 15) d_QG_readList_10 (by decide) (fun c_ => ?_) (fun c_ => ?_)
  · replace h := x_ie h c_
    refine x_iconst (v := 0) d_QG_readList_15 (by decide) ?_
    refine x_istore_n (lv2 := [(0, .ref 114), (1, .ref q1), (2, .int 0)]) d_QG_readList_16 rfl (by decide) rfl ?_
    exact b_QG_readList_17 hq1 _ _ _ h
  · replace h := x_it h c_
    refine x_iconst (v := 0) d_QG_readList_13 (by decide) ?_
    cases h
    exact x_ri d_QG_readList_14 rfl rfl
def B_CP_becomeRelation_97 (p : Nat)  (s0 : Int32) (m : x_m) : Option (x_m) := some (x_wS m p 3 s0)
theorem b_CP_becomeRelation_97 {G : x_G} {ex : Bool} {r : x_m} {p : Nat} (hp : x_CP p)  {s0 : Int32} {m : x_m} (h : B_CP_becomeRelation_97 p s0 m = some r) : x_W G M_CP_becomeRelation (x_rd 0) (x_Q G (x_rd 0) ex (x_pv r)) ex x_np (x_hp m) 0 0 [] [.int s0, .ref p] 97 := by
  unfold B_CP_becomeRelation_97 at h
  refine x_pI d_CP_becomeRelation_97 (f_CP_27 rfl) tb_CP rfl (sh_CP hp) (hp_CP hp) rfl ⟨rfl, rfl⟩ ?_
  cases h
  exact x_rv d_CP_becomeRelation_100 rfl
def B_CP_becomeRelation_82 (p : Nat)  (l2 : Int32) (l4 : Int32) (s0 : Int32) (m : x_m) : Option (x_m) := (if l4 = 0 then B_CP_becomeRelation_97 p l2 (x_wS m p 2 s0) else B_CP_becomeRelation_97 p 2147483647 (x_wS m p 2 s0))
theorem b_CP_becomeRelation_82 {G : x_G} {ex : Bool} {r : x_m} {p : Nat} (hp : x_CP p)  {l2 : Int32} {l4 : Int32} {s0 : Int32} {m : x_m} (h : B_CP_becomeRelation_82 p l2 l4 s0 m = some r) : x_W G M_CP_becomeRelation (x_rd 0) (x_Q G (x_rd 0) ex (x_pv r)) ex x_np (x_hp m) 0 0 [(0, .ref p), (2, .int l2), (4, .int l4)] [.int s0, .ref p] 82 := by
  unfold B_CP_becomeRelation_82 at h
  refine x_pI d_CP_becomeRelation_82 (f_CP_24 rfl) tb_CP rfl (sh_CP hp) (hp_CP hp) rfl ⟨rfl, rfl⟩ ?_
  refine x_aload_n d_CP_becomeRelation_85 rfl rfl ?_
  refine x_iload d_CP_becomeRelation_86 rfl ?_
  refine x_if_eq (tgt := 96) d_CP_becomeRelation_88 (by decide) (fun c_ => ?_) (fun c_ => ?_)
  · replace h := x_it h c_
    refine x_iload_n d_CP_becomeRelation_96 rfl rfl ?_
    refine x_sbk [] (lv2 := []) rfl ?_; exact b_CP_becomeRelation_97 hp h
  · replace h := x_ie h c_
    refine x_ldc (v := 2147483647) d_CP_becomeRelation_91 w_610 ?_
    refine x_goto (tgt := 97) d_CP_becomeRelation_93 (by decide) ?_
    refine x_sbk [] (lv2 := []) rfl ?_; exact b_CP_becomeRelation_97 hp h
def B_CP_becomeRelation_69 (p : Nat)  (l2 : Int32) (l3 : Int32) (s0 : Int32) (m : x_m) : Option (x_m) := (if l3 = 0 then B_CP_becomeRelation_82 p l2 s0 l2 m else B_CP_becomeRelation_82 p l2 s0 ((-2147483648)) m)
theorem b_CP_becomeRelation_69 {G : x_G} {ex : Bool} {r : x_m} {p : Nat} (hp : x_CP p)  {l2 : Int32} {l3 : Int32} {s0 : Int32} {m : x_m} (h : B_CP_becomeRelation_69 p l2 l3 s0 m = some r) : x_W G M_CP_becomeRelation (x_rd 0) (x_Q G (x_rd 0) ex (x_pv r)) ex x_np (x_hp m) 0 0 [(0, .ref p), (2, .int l2), (3, .int l3)] [.int s0] 69 := by
  unfold B_CP_becomeRelation_69 at h
  refine x_istore (lv2 := [(0, .ref p), (2, .int l2), (3, .int l3), (4, .int s0)]) d_CP_becomeRelation_69 (by decide) rfl ?_
  refine x_aload_n d_CP_becomeRelation_71 rfl rfl ?_
  refine x_iload_n d_CP_becomeRelation_72 rfl rfl ?_
  refine x_if_eq (tgt := 81) d_CP_becomeRelation_73 (by decide) (fun c_ => ?_) (fun c_ => ?_)
  · replace h := x_it h c_
    refine x_iload_n d_CP_becomeRelation_81 rfl rfl ?_
    refine x_sbk [0, 1, 3] (lv2 := [(0, .ref p), (2, .int l2), (4, .int s0)]) rfl ?_; exact b_CP_becomeRelation_82 hp h
  · replace h := x_ie h c_
    refine x_ldc (v := (-2147483648)) d_CP_becomeRelation_76 w_609 ?_
    refine x_goto (tgt := 82) d_CP_becomeRelation_78 (by decide) ?_
    refine x_sbk [0, 1, 3] (lv2 := [(0, .ref p), (2, .int l2), (4, .int s0)]) rfl ?_; exact b_CP_becomeRelation_82 hp h
def B_CP_becomeRelation_64 (p : Nat)  (l2 : Int32) (l3 : Int32) (m : x_m) : Option (x_m) := B_CP_becomeRelation_69 p l2 l3 1 m
theorem b_CP_becomeRelation_64 {G : x_G} {ex : Bool} {r : x_m} {p : Nat} (hp : x_CP p)  {l2 : Int32} {l3 : Int32} {m : x_m} (h : B_CP_becomeRelation_64 p l2 l3 m = some r) : x_W G M_CP_becomeRelation (x_rd 0) (x_Q G (x_rd 0) ex (x_pv r)) ex x_np (x_hp m) 0 0 [(0, .ref p), (2, .int l2), (3, .int l3)] [] 64 := by
  unfold B_CP_becomeRelation_64 at h
  refine x_iconst (v := 1) d_CP_becomeRelation_64 (by decide) ?_
  refine x_goto (tgt := 69) d_CP_becomeRelation_65 (by decide) ?_
  exact b_CP_becomeRelation_69 hp h
def B_CP_becomeRelation_49 (p : Nat)  (l1 : Nat) (l2 : Int32) (s0 : Int32) (m : x_m) : Option (x_m) := (if x_kv l1 = true then (if l1 = (x_N + 16) then B_CP_becomeRelation_64 p l2 s0 m else (if x_kv l1 = true then (if l1 = (x_N + 13) then B_CP_becomeRelation_64 p l2 s0 m else B_CP_becomeRelation_69 p l2 s0 0 m) else none)) else none)
theorem b_CP_becomeRelation_49 {G : x_G} {ex : Bool} {r : x_m} {p : Nat} (hp : x_CP p)  {l1 : Nat} {l2 : Int32} {s0 : Int32} {m : x_m} (h : B_CP_becomeRelation_49 p l1 l2 s0 m = some r) : x_W G M_CP_becomeRelation (x_rd 0) (x_Q G (x_rd 0) ex (x_pv r)) ex x_np (x_hp m) 0 0 [(0, .ref p), (1, .ref l1), (2, .int l2)] [.int s0] 49 := by
  unfold B_CP_becomeRelation_49 at h
  refine x_istore_n (lv2 := [(0, .ref p), (1, .ref l1), (2, .int l2), (3, .int s0)]) d_CP_becomeRelation_49 rfl (by decide) rfl ?_
  refine x_aload_n d_CP_becomeRelation_50 rfl rfl ?_
  refine x_gets (i := 16) d_CP_becomeRelation_51 (by decide) w_608 ?_
  obtain ⟨g_54_0, h⟩ := x_gd h
  refine x_kacmp_eq (tgt := 64) d_CP_becomeRelation_54 (by decide) g_54_0 (x_kvN 16 (by decide)) (fun c_ => ?_) (fun c_ => ?_)
  · replace h := x_it h c_
    refine x_sbk [0, 2, 3] (lv2 := [(0, .ref p), (2, .int l2), (3, .int s0)]) rfl ?_; exact b_CP_becomeRelation_64 hp h
  · replace h := x_ie h c_
    refine x_aload_n d_CP_becomeRelation_57 rfl rfl ?_
    refine x_gets (i := 13) d_CP_becomeRelation_58 (by decide) w_605 ?_
    obtain ⟨g_61_0, h⟩ := x_gd h
    refine x_kacmp_ne (tgt := 68) d_CP_becomeRelation_61 (by decide) g_61_0 (x_kvN 13 (by decide)) (fun c_ => ?_) (fun c_ => ?_)
    · replace h := x_ie h c_
      refine x_iconst (v := 0) d_CP_becomeRelation_68 (by decide) ?_
      refine x_sbk [0, 2, 3] (lv2 := [(0, .ref p), (2, .int l2), (3, .int s0)]) rfl ?_; exact b_CP_becomeRelation_69 hp h
    · replace h := x_it h c_
      refine x_sbk [0, 2, 3] (lv2 := [(0, .ref p), (2, .int l2), (3, .int s0)]) rfl ?_; exact b_CP_becomeRelation_64 hp h
def B_CP_becomeRelation_44 (p : Nat)  (l1 : Nat) (l2 : Int32) (m : x_m) : Option (x_m) := B_CP_becomeRelation_49 p l1 l2 1 m
theorem b_CP_becomeRelation_44 {G : x_G} {ex : Bool} {r : x_m} {p : Nat} (hp : x_CP p)  {l1 : Nat} {l2 : Int32} {m : x_m} (h : B_CP_becomeRelation_44 p l1 l2 m = some r) : x_W G M_CP_becomeRelation (x_rd 0) (x_Q G (x_rd 0) ex (x_pv r)) ex x_np (x_hp m) 0 0 [(0, .ref p), (1, .ref l1), (2, .int l2)] [] 44 := by
  unfold B_CP_becomeRelation_44 at h
  refine x_iconst (v := 1) d_CP_becomeRelation_44 (by decide) ?_
  refine x_goto (tgt := 49) d_CP_becomeRelation_45 (by decide) ?_
  exact b_CP_becomeRelation_49 hp h
def B_CP_becomeRelation_27 (p : Nat)  (l1 : Nat) (l2 : Int32) (s0 : Int32) (m : x_m) : Option (x_m) := (if x_b1 s0 = true then (if x_kv l1 = true then (if l1 = (x_N + 14) then B_CP_becomeRelation_44 p l1 l2 (x_wS m p 1 s0) else (if x_kv l1 = true then (if l1 = (x_N + 15) then B_CP_becomeRelation_44 p l1 l2 (x_wS m p 1 s0) else B_CP_becomeRelation_49 p l1 l2 0 (x_wS m p 1 s0)) else none)) else none) else none)
theorem b_CP_becomeRelation_27 {G : x_G} {ex : Bool} {r : x_m} {p : Nat} (hp : x_CP p)  {l1 : Nat} {l2 : Int32} {s0 : Int32} {m : x_m} (h : B_CP_becomeRelation_27 p l1 l2 s0 m = some r) : x_W G M_CP_becomeRelation (x_rd 0) (x_Q G (x_rd 0) ex (x_pv r)) ex x_np (x_hp m) 0 0 [(0, .ref p), (1, .ref l1), (2, .int l2)] [.int s0, .ref p] 27 := by
  unfold B_CP_becomeRelation_27 at h
  obtain ⟨g_27, h⟩ := x_gd h
  refine x_pI d_CP_becomeRelation_27 (f_CP_17 rfl) tb_CP rfl (sh_CP hp) (hp_CP hp) rfl (x_b1_ok g_27) ?_
  refine x_aload_n d_CP_becomeRelation_30 rfl rfl ?_
  refine x_gets (i := 14) d_CP_becomeRelation_31 (by decide) w_607 ?_
  obtain ⟨g_34_0, h⟩ := x_gd h
  refine x_kacmp_eq (tgt := 44) d_CP_becomeRelation_34 (by decide) g_34_0 (x_kvN 14 (by decide)) (fun c_ => ?_) (fun c_ => ?_)
  · replace h := x_it h c_
    exact b_CP_becomeRelation_44 hp h
  · replace h := x_ie h c_
    refine x_aload_n d_CP_becomeRelation_37 rfl rfl ?_
    refine x_gets (i := 15) d_CP_becomeRelation_38 (by decide) w_606 ?_
    obtain ⟨g_41_0, h⟩ := x_gd h
    refine x_kacmp_ne (tgt := 48) d_CP_becomeRelation_41 (by decide) g_41_0 (x_kvN 15 (by decide)) (fun c_ => ?_) (fun c_ => ?_)
    · replace h := x_ie h c_
      refine x_iconst (v := 0) d_CP_becomeRelation_48 (by decide) ?_
      exact b_CP_becomeRelation_49 hp h
    · replace h := x_it h c_
      exact b_CP_becomeRelation_44 hp h
def B_CP_becomeRelation_22 (p : Nat)  (l1 : Nat) (l2 : Int32) (m : x_m) : Option (x_m) := B_CP_becomeRelation_27 p l1 l2 1 m
theorem b_CP_becomeRelation_22 {G : x_G} {ex : Bool} {r : x_m} {p : Nat} (hp : x_CP p)  {l1 : Nat} {l2 : Int32} {m : x_m} (h : B_CP_becomeRelation_22 p l1 l2 m = some r) : x_W G M_CP_becomeRelation (x_rd 0) (x_Q G (x_rd 0) ex (x_pv r)) ex x_np (x_hp m) 0 0 [(0, .ref p), (1, .ref l1), (2, .int l2)] [.ref p] 22 := by
  unfold B_CP_becomeRelation_22 at h
  refine x_iconst (v := 1) d_CP_becomeRelation_22 (by decide) ?_
  refine x_goto (tgt := 27) d_CP_becomeRelation_23 (by decide) ?_
  exact b_CP_becomeRelation_27 hp h
def F_CP_becomeRelation (p : Nat) (a1 : Nat) (a2 : Int32) (m : x_m) : Option (x_m) := (if x_kv a1 = true then (if a1 = (x_N + 12) then B_CP_becomeRelation_22 p a1 a2 m else (if x_kv a1 = true then (if a1 = (x_N + 13) then B_CP_becomeRelation_22 p a1 a2 m else (if x_kv a1 = true then (if a1 = (x_N + 15) then B_CP_becomeRelation_22 p a1 a2 m else B_CP_becomeRelation_27 p a1 a2 0 m) else none)) else none)) else none)
theorem c_CP_becomeRelation {G : x_G} {ex : Bool} {r : x_m} {p : Nat} (hp : x_CP p) {a1 : Nat} {a2 : Int32} {m : x_m} (h : F_CP_becomeRelation p a1 a2 m = some r) : x_R G M_CP_becomeRelation (x_rd 0) ex [.ref p, .ref a1, .int a2] x_np (x_hp m) (x_pv r) := by
  unfold F_CP_becomeRelation at h
  show x_W G M_CP_becomeRelation (x_rd 0) (x_Q G (x_rd 0) ex (x_pv r)) ex x_np (x_hp m) 0 0 [(0, .ref p), (1, .ref a1), (2, .int a2)] [] 0
  refine x_aload_n d_CP_becomeRelation_0 rfl rfl ?_
  refine x_aload_n d_CP_becomeRelation_1 rfl rfl ?_
  refine x_gets (i := 12) d_CP_becomeRelation_2 (by decide) w_604 ?_
  obtain ⟨g_5_0, h⟩ := x_gd h
  refine x_kacmp_eq (tgt := 22) d_CP_becomeRelation_5 (by decide) g_5_0 (x_kvN 12 (by decide)) (fun c_ => ?_) (fun c_ => ?_)
  · replace h := x_it h c_
    exact b_CP_becomeRelation_22 hp h
  · replace h := x_ie h c_
    refine x_aload_n d_CP_becomeRelation_8 rfl rfl ?_
    refine x_gets (i := 13) d_CP_becomeRelation_9 (by decide) w_605 ?_
    obtain ⟨g_12_0, h⟩ := x_gd h
    refine x_kacmp_eq (tgt := 22) d_CP_becomeRelation_12 (by decide) g_12_0 (x_kvN 13 (by decide)) (fun c_ => ?_) (fun c_ => ?_)
    · replace h := x_it h c_
      exact b_CP_becomeRelation_22 hp h
    · replace h := x_ie h c_
      refine x_aload_n d_CP_becomeRelation_15 rfl rfl ?_
      refine x_gets (i := 15) d_CP_becomeRelation_16 (by decide) w_606 ?_
      obtain ⟨g_19_0, h⟩ := x_gd h
      refine x_kacmp_ne (tgt := 26) d_CP_becomeRelation_19 (by decide) g_19_0 (x_kvN 15 (by decide)) (fun c_ => ?_) (fun c_ => ?_)
      · replace h := x_ie h c_
        refine x_iconst (v := 0) d_CP_becomeRelation_26 (by decide) ?_
        exact b_CP_becomeRelation_27 hp h
      · replace h := x_it h c_
        exact b_CP_becomeRelation_22 hp h
def B_QG_isRelation_47   (s0 : Int32) (m : x_m) : Option (Int32 × x_m) := (if x_b1 s0 = true then some (s0, m) else none)
theorem b_QG_isRelation_47 {G : x_G} {ex : Bool} {r : Int32 × x_m}   {s0 : Int32} {m : x_m} (h : B_QG_isRelation_47 s0 m = some r) : x_W G M_QG_isRelation (x_rd 0) (x_Q G (x_rd 0) ex (x_pi r)) ex x_np (x_hp m) 0 0 [] [.int s0] 47 := by
  unfold B_QG_isRelation_47 at h
  obtain ⟨g_47, h⟩ := x_gd h
  cases h
  exact x_ri d_QG_isRelation_47 rfl (x_b1_ok g_47).1
def B_QG_isRelation_42    (m : x_m) : Option (Int32 × x_m) := B_QG_isRelation_47 1 m
theorem b_QG_isRelation_42 {G : x_G} {ex : Bool} {r : Int32 × x_m}    {m : x_m} (h : B_QG_isRelation_42 m = some r) : x_W G M_QG_isRelation (x_rd 0) (x_Q G (x_rd 0) ex (x_pi r)) ex x_np (x_hp m) 0 0 [] [] 42 := by
  unfold B_QG_isRelation_42 at h
  refine x_iconst (v := 1) d_QG_isRelation_42 (by decide) ?_
  refine x_goto (tgt := 47) d_QG_isRelation_43 (by decide) ?_
  exact b_QG_isRelation_47 h
def F_QG_isRelation  (a0 : Nat) (m : x_m) : Option (Int32 × x_m) := (if x_kv a0 = true then (if a0 = (x_N + 11) then B_QG_isRelation_42 m else (if x_kv a0 = true then (if a0 = (x_N + 12) then B_QG_isRelation_42 m else (if x_kv a0 = true then (if a0 = (x_N + 13) then B_QG_isRelation_42 m else (if x_kv a0 = true then (if a0 = (x_N + 14) then B_QG_isRelation_42 m else (if x_kv a0 = true then (if a0 = (x_N + 15) then B_QG_isRelation_42 m else (if x_kv a0 = true then (if a0 = (x_N + 16) then B_QG_isRelation_42 m else B_QG_isRelation_47 0 m) else none)) else none)) else none)) else none)) else none)) else none)
theorem c_QG_isRelation {G : x_G} {ex : Bool} {r : Int32 × x_m}  {a0 : Nat} {m : x_m} (h : F_QG_isRelation a0 m = some r) : x_R G M_QG_isRelation (x_rd 0) ex [.ref a0] x_np (x_hp m) (x_pi r) := by
  unfold F_QG_isRelation at h
  show x_W G M_QG_isRelation (x_rd 0) (x_Q G (x_rd 0) ex (x_pi r)) ex x_np (x_hp m) 0 0 [(0, .ref a0)] [] 0
  refine x_aload_n d_QG_isRelation_0 rfl rfl ?_
  refine x_gets (i := 11) d_QG_isRelation_1 (by decide) w_584 ?_
  obtain ⟨g_4_0, h⟩ := x_gd h
  refine x_kacmp_eq (tgt := 42) d_QG_isRelation_4 (by decide) g_4_0 (x_kvN 11 (by decide)) (fun c_ => ?_) (fun c_ => ?_)
  · replace h := x_it h c_
    refine x_sbk [] (lv2 := []) rfl ?_; exact b_QG_isRelation_42 h
  · replace h := x_ie h c_
    refine x_aload_n d_QG_isRelation_7 rfl rfl ?_
    refine x_gets (i := 12) d_QG_isRelation_8 (by decide) w_586 ?_
    obtain ⟨g_11_0, h⟩ := x_gd h
    refine x_kacmp_eq (tgt := 42) d_QG_isRelation_11 (by decide) g_11_0 (x_kvN 12 (by decide)) (fun c_ => ?_) (fun c_ => ?_)
    · replace h := x_it h c_
      refine x_sbk [] (lv2 := []) rfl ?_; exact b_QG_isRelation_42 h
    · replace h := x_ie h c_
      refine x_aload_n d_QG_isRelation_14 rfl rfl ?_
      refine x_gets (i := 13) d_QG_isRelation_15 (by decide) w_588 ?_
      obtain ⟨g_18_0, h⟩ := x_gd h
      refine x_kacmp_eq (tgt := 42) d_QG_isRelation_18 (by decide) g_18_0 (x_kvN 13 (by decide)) (fun c_ => ?_) (fun c_ => ?_)
      · replace h := x_it h c_
        refine x_sbk [] (lv2 := []) rfl ?_; exact b_QG_isRelation_42 h
      · replace h := x_ie h c_
        refine x_aload_n d_QG_isRelation_21 rfl rfl ?_
        refine x_gets (i := 14) d_QG_isRelation_22 (by decide) w_590 ?_
        obtain ⟨g_25_0, h⟩ := x_gd h
        refine x_kacmp_eq (tgt := 42) d_QG_isRelation_25 (by decide) g_25_0 (x_kvN 14 (by decide)) (fun c_ => ?_) (fun c_ => ?_)
        · replace h := x_it h c_
          refine x_sbk [] (lv2 := []) rfl ?_; exact b_QG_isRelation_42 h
        · replace h := x_ie h c_
          refine x_aload_n d_QG_isRelation_28 rfl rfl ?_
          refine x_gets (i := 15) d_QG_isRelation_29 (by decide) w_592 ?_
          obtain ⟨g_32_0, h⟩ := x_gd h
          refine x_kacmp_eq (tgt := 42) d_QG_isRelation_32 (by decide) g_32_0 (x_kvN 15 (by decide)) (fun c_ => ?_) (fun c_ => ?_)
          · replace h := x_it h c_
            refine x_sbk [] (lv2 := []) rfl ?_; exact b_QG_isRelation_42 h
          · replace h := x_ie h c_
            refine x_aload_n d_QG_isRelation_35 rfl rfl ?_
            refine x_gets (i := 16) d_QG_isRelation_36 (by decide) w_594 ?_
            obtain ⟨g_39_0, h⟩ := x_gd h
            refine x_kacmp_ne (tgt := 46) d_QG_isRelation_39 (by decide) g_39_0 (x_kvN 16 (by decide)) (fun c_ => ?_) (fun c_ => ?_)
            · replace h := x_ie h c_
              refine x_iconst (v := 0) d_QG_isRelation_46 (by decide) ?_
              refine x_sbk [] (lv2 := []) rfl ?_; exact b_QG_isRelation_47 h
            · replace h := x_it h c_
              refine x_sbk [] (lv2 := []) rfl ?_; exact b_QG_isRelation_42 h
def F_QG_readRelation (q1 : Nat)  (m : x_m) : Option (Int32 × x_m) := ((F_QG_isRelation (m.2.2.1 3 1) m).bind fun r9 => (if r9.1 = 0 then ((F_LX_tellUnfit r9.2).bind fun r19 => (if x_b1 r19.1 = true then some (r19.1, r19.2) else none)) else ((F_LX_next (x_N + 2) r9.2).bind fun r30 => (if r30.1 = 0 then some (0, r30.2) else ((F_CP_becomeRelation q1 (m.2.2.1 3 1) (r30.2.1 3 4) r30.2).bind fun r47 => some (1, r47))))))
theorem c_QG_readRelation {G : x_G} {ex : Bool} {r : Int32 × x_m} {q1 : Nat} (hq1 : x_CP q1)  {m : x_m} (h : F_QG_readRelation q1 m = some r) : x_R G M_QG_readRelation (x_rd 3) ex [.ref 114, .ref q1] x_np (x_hp m) (x_pi r) := by
  unfold F_QG_readRelation at h
  show x_W G M_QG_readRelation (x_rd 3) (x_Q G (x_rd 3) ex (x_pi r)) ex x_np (x_hp m) 0 0 [(0, .ref 114), (1, .ref q1)] [] 0
  refine x_aload_n d_QG_readRelation_0 rfl rfl ?_
  refine x_gC d_QG_readRelation_1 (f_QG_21 rfl) sh_QG hp_QG rfl ?_
  refine x_gR d_QG_readRelation_4 (f_QG_53 rfl) sh_LX hp_LX rfl ?_
  refine x_astore_n (lv2 := [(0, .ref 114), (1, .ref q1), (2, .ref (m.2.2.1 3 1))]) d_QG_readRelation_7 rfl (by decide) rfl ?_
  refine x_aload_n d_QG_readRelation_8 rfl rfl ?_
  obtain ⟨r9, e9, h⟩ := x_bd h
  refine x_cSi (M2 := M_QG_isRelation) (As := [.ref (m.2.2.1 3 1)]) (st := []) d_QG_readRelation_9 w_581 k_QG_isRelation (c_QG_isRelation e9) rfl ⟨Nat.le_of_ble_eq_true rfl, Nat.le_of_ble_eq_true rfl⟩ (Nat.le_of_ble_eq_true rfl) (Nat.le_of_ble_eq_true rfl) rfl ?_
  refine x_if_ne (tgt := 23) d_QG_readRelation_12 (by decide) (fun c_ => ?_) (fun c_ => ?_)
  · replace h := x_ie h c_
    refine x_aload_n d_QG_readRelation_23 rfl rfl ?_
    refine x_gC d_QG_readRelation_24 (f_QG_21 rfl) sh_QG hp_QG rfl ?_
    refine x_gets (i := 2) d_QG_readRelation_27 (by decide) w_560 ?_
    obtain ⟨r30, e30, h⟩ := x_bd h
    refine x_cVi (M2 := M_LX_next) (As := [.ref (x_N + 2)]) (st := []) d_QG_readRelation_30 w_492 k_LX_next (c_LX_next e30) rfl sh_LX hp_LX rfl ⟨Nat.le_of_ble_eq_true rfl, Nat.le_of_ble_eq_true rfl⟩ (Nat.le_of_ble_eq_true rfl) (Nat.le_of_ble_eq_true rfl) rfl ?_
    refine x_if_ne (tgt := 38) d_QG_readRelation_33 (by decide) (fun c_ => ?_) (fun c_ => ?_)
    · replace h := x_ie h c_
      refine x_aload_n d_QG_readRelation_38 rfl rfl ?_
      refine x_aload_n d_QG_readRelation_39 rfl rfl ?_
      refine x_aload_n d_QG_readRelation_40 rfl rfl ?_
      refine x_gC d_QG_readRelation_41 (f_QG_21 rfl) sh_QG hp_QG rfl ?_
      refine x_gI d_QG_readRelation_44 (f_QG_245 rfl) sh_LX hp_LX rfl ?_
      obtain ⟨r47, e47, h⟩ := x_bd h
      refine x_cVv (M2 := M_CP_becomeRelation) (As := [.ref (m.2.2.1 3 1), .int (r30.2.1 3 4)]) (st := []) d_QG_readRelation_47 w_600 k_CP_becomeRelation (c_CP_becomeRelation hq1 e47) rfl (sh_CP hq1) (hp_CP hq1) rfl ⟨Nat.le_of_ble_eq_true rfl, Nat.le_of_ble_eq_true rfl⟩ (Nat.le_of_ble_eq_true rfl) (Nat.le_of_ble_eq_true rfl) rfl ?_
      refine x_iconst (v := 1) d_QG_readRelation_50 (by decide) ?_
      cases h
      exact x_ri d_QG_readRelation_51 rfl rfl
    · replace h := x_it h c_
      refine x_iconst (v := 0) d_QG_readRelation_36 (by decide) ?_
      cases h
      exact x_ri d_QG_readRelation_37 rfl rfl
  · replace h := x_it h c_
    refine x_aload_n d_QG_readRelation_15 rfl rfl ?_
    refine x_gC d_QG_readRelation_16 (f_QG_21 rfl) sh_QG hp_QG rfl ?_
    obtain ⟨r19, e19, h⟩ := x_bd h
    refine x_cVi (M2 := M_LX_tellUnfit) (As := []) (st := []) d_QG_readRelation_19 w_596 k_LX_tellUnfit (c_LX_tellUnfit e19) rfl sh_LX hp_LX rfl ⟨Nat.le_of_ble_eq_true rfl, Nat.le_of_ble_eq_true rfl⟩ (Nat.le_of_ble_eq_true rfl) (Nat.le_of_ble_eq_true rfl) rfl ?_
    obtain ⟨g_22, h⟩ := x_gd h
    cases h
    exact x_ri d_QG_readRelation_22 rfl (x_b1_ok g_22).1
def B_QG_readComparison_136 (q1 : Nat)  (s0 : Int32) (m : x_m) : Option (Int32 × x_m) := (if x_b1 s0 = true then some (s0, m) else none)
theorem b_QG_readComparison_136 {G : x_G} {ex : Bool} {r : Int32 × x_m} {q1 : Nat} (hq1 : x_CN q1)  {s0 : Int32} {m : x_m} (h : B_QG_readComparison_136 q1 s0 m = some r) : x_W G M_QG_readComparison (x_rd 4) (x_Q G (x_rd 4) ex (x_pi r)) ex x_np (x_hp m) 0 0 [] [.int s0] 136 := by
  unfold B_QG_readComparison_136 at h
  obtain ⟨g_136, h⟩ := x_gd h
  cases h
  exact x_ri d_QG_readComparison_136 rfl (x_b1_ok g_136).1
def B_QG_readComparison_87 (q1 : Nat)  (s0 : Int32) (m : x_m) : Option (Int32 × x_m) := (if x_b1 s0 = true then some (s0, m) else none)
theorem b_QG_readComparison_87 {G : x_G} {ex : Bool} {r : Int32 × x_m} {q1 : Nat} (hq1 : x_CN q1)  {s0 : Int32} {m : x_m} (h : B_QG_readComparison_87 q1 s0 m = some r) : x_W G M_QG_readComparison (x_rd 4) (x_Q G (x_rd 4) ex (x_pi r)) ex x_np (x_hp m) 0 0 [] [.int s0] 87 := by
  unfold B_QG_readComparison_87 at h
  obtain ⟨g_87, h⟩ := x_gd h
  cases h
  exact x_ri d_QG_readComparison_87 rfl (x_b1_ok g_87).1
def B_QG_readComparison_86 (q1 : Nat)   (m : x_m) : Option (Int32 × x_m) := B_QG_readComparison_87 q1 0 m
theorem b_QG_readComparison_86 {G : x_G} {ex : Bool} {r : Int32 × x_m} {q1 : Nat} (hq1 : x_CN q1)   {m : x_m} (h : B_QG_readComparison_86 q1 m = some r) : x_W G M_QG_readComparison (x_rd 4) (x_Q G (x_rd 4) ex (x_pi r)) ex x_np (x_hp m) 0 0 [] [] 86 := by
  unfold B_QG_readComparison_86 at h
  refine x_iconst (v := 0) d_QG_readComparison_86 (by decide) ?_
  exact b_QG_readComparison_87 hq1 h
def B_QG_readComparison_20 (q1 : Nat)   (m : x_m) : Option (Int32 × x_m) := some (0, m)
theorem b_QG_readComparison_20 {G : x_G} {ex : Bool} {r : Int32 × x_m} {q1 : Nat} (hq1 : x_CN q1)   {m : x_m} (h : B_QG_readComparison_20 q1 m = some r) : x_W G M_QG_readComparison (x_rd 4) (x_Q G (x_rd 4) ex (x_pi r)) ex x_np (x_hp m) 0 0 [] [] 20 := by
  unfold B_QG_readComparison_20 at h
  refine x_iconst (v := 0) d_QG_readComparison_20 (by decide) ?_
  cases h
  exact x_ri d_QG_readComparison_21 rfl rfl
def F_QG_readComparison (q1 : Nat)  (m : x_m) : Option (Int32 × x_m) := ((F_CN_isFull q1 m).bind fun r1 => ((F_QG_readColumn r1.1 r1.2).bind fun r7 => (if r1.1 = 0 then (if r7.1 = ((-1)) then B_QG_readComparison_20 q1 r7.2 else ((F_CN_coming q1 r7.2).bind fun r23 => (if x_cp r23.1 = true then ((F_CP_restart r23.1 r7.1 r23.2).bind fun r31 => ((F_LX_advance r31).bind fun r38 => (if x_kv (r38.2.2.1 3 1) = true then (if (r38.2.2.1 3 1) = (x_N + 33) then ((F_LX_next (x_N + 35) (x_wS r38 r23.1 1 1)).bind fun r67 => (if r67.1 = 0 then B_QG_readComparison_86 q1 r67.2 else ((F_QG_readList r23.1 r67.2).bind fun r76 => (if r76.1 = 0 then B_QG_readComparison_86 q1 r76.2 else B_QG_readComparison_87 q1 1 r76.2)))) else (if x_kv (r38.2.2.1 3 1) = true then (if (r38.2.2.1 3 1) = (x_N + 35) then ((F_QG_readList r23.1 r38).bind fun r104 => (if x_b1 r104.1 = true then some (r104.1, r104.2) else none)) else (if x_kv (r38.2.2.1 3 1) = true then (if (r38.2.2.1 3 1) = (x_N + 34) then ((F_QG_readBetween r23.1 r38).bind fun r124 => B_QG_readComparison_136 q1 r124.1 r124.2) else ((F_QG_readRelation r23.1 r38).bind fun r133 => B_QG_readComparison_136 q1 r133.1 r133.2)) else none)) else none)) else none))) else none))) else B_QG_readComparison_20 q1 r7.2)))
theorem c_QG_readComparison {G : x_G} {ex : Bool} {r : Int32 × x_m} {q1 : Nat} (hq1 : x_CN q1)  {m : x_m} (h : F_QG_readComparison q1 m = some r) : x_R G M_QG_readComparison (x_rd 4) ex [.ref 114, .ref q1] x_np (x_hp m) (x_pi r) := by
  unfold F_QG_readComparison at h
  show x_W G M_QG_readComparison (x_rd 4) (x_Q G (x_rd 4) ex (x_pi r)) ex x_np (x_hp m) 0 0 [(0, .ref 114), (1, .ref q1)] [] 0
  refine x_aload_n d_QG_readComparison_0 rfl rfl ?_
  obtain ⟨r1, e1, h⟩ := x_bd h
  refine x_cVi (M2 := M_CN_isFull) (As := []) (st := []) d_QG_readComparison_1 w_542 k_CN_isFull (c_CN_isFull hq1 e1) rfl (sh_CN hq1) (hp_CN hq1) rfl ⟨Nat.le_of_ble_eq_true rfl, Nat.le_of_ble_eq_true rfl⟩ (Nat.le_of_ble_eq_true rfl) (Nat.le_of_ble_eq_true rfl) rfl ?_
  refine x_istore_n (lv2 := [(0, .ref 114), (1, .ref q1), (2, .int r1.1)]) d_QG_readComparison_4 rfl (by decide) rfl ?_
  refine x_aload_n d_QG_readComparison_5 rfl rfl ?_
  refine x_iload_n d_QG_readComparison_6 rfl rfl ?_
  obtain ⟨r7, e7, h⟩ := x_bd h
  refine x_cVi (M2 := M_QG_readColumn) (As := [.int r1.1]) (st := []) d_QG_readComparison_7 w_469 k_QG_readColumn (c_QG_readColumn e7) rfl sh_QG hp_QG rfl ⟨Nat.le_of_ble_eq_true rfl, Nat.le_of_ble_eq_true rfl⟩ (Nat.le_of_ble_eq_true rfl) (Nat.le_of_ble_eq_true rfl) rfl ?_
  refine x_istore_n (lv2 := [(0, .ref 114), (1, .ref q1), (2, .int r1.1), (3, .int r7.1)]) d_QG_readComparison_10 rfl (by decide) rfl ?_
  refine x_iload_n d_QG_readComparison_11 rfl rfl ?_
  refine x_if_ne (tgt := 20) d_QG_readComparison_12 (by decide) (fun c_ => ?_) (fun c_ => ?_)
  · replace h := x_ie h c_
    refine x_sbk [] (lv2 := []) rfl ?_; exact b_QG_readComparison_20 hq1 h
  · replace h := x_it h c_
    refine x_iload_n d_QG_readComparison_15 rfl rfl ?_
    refine x_iconst (v := (-1)) d_QG_readComparison_16 (by decide) ?_
    refine x_icmp_ne (tgt := 22) d_QG_readComparison_17 (by decide) (fun c_ => ?_) (fun c_ => ?_)
    · replace h := x_ie h c_
      refine x_aload_n d_QG_readComparison_22 rfl rfl ?_
      obtain ⟨r23, e23, h⟩ := x_bd h
      refine x_cVr (M2 := M_CN_coming) (As := []) (st := []) d_QG_readComparison_23 w_546 k_CN_coming (c_CN_coming hq1 e23) rfl (sh_CN hq1) (hp_CN hq1) rfl ⟨Nat.le_of_ble_eq_true rfl, Nat.le_of_ble_eq_true rfl⟩ (Nat.le_of_ble_eq_true rfl) (Nat.le_of_ble_eq_true rfl) rfl ?_
      obtain ⟨g_23, h⟩ := x_gd h
      refine x_astore (lv2 := [(0, .ref 114), (1, .ref q1), (2, .int r1.1), (3, .int r7.1), (4, .ref r23.1)]) d_QG_readComparison_26 (by decide) rfl ?_
      refine x_aload d_QG_readComparison_28 rfl ?_
      refine x_iload_n d_QG_readComparison_30 rfl rfl ?_
      obtain ⟨r31, e31, h⟩ := x_bd h
      refine x_cVv (M2 := M_CP_restart) (As := [.int r7.1]) (st := []) d_QG_readComparison_31 w_550 k_CP_restart (c_CP_restart (x_cp_ok g_23) e31) rfl (sh_CP (x_cp_ok g_23)) (hp_CP (x_cp_ok g_23)) rfl ⟨Nat.le_of_ble_eq_true rfl, Nat.le_of_ble_eq_true rfl⟩ (Nat.le_of_ble_eq_true rfl) (Nat.le_of_ble_eq_true rfl) rfl ?_
      refine x_aload_n d_QG_readComparison_34 rfl rfl ?_
      refine x_gC d_QG_readComparison_35 (f_QG_21 rfl) sh_QG hp_QG rfl ?_
      obtain ⟨r38, e38, h⟩ := x_bd h
      refine x_cVv (M2 := M_LX_advance) (As := []) (st := []) d_QG_readComparison_38 w_451 k_LX_advance (c_LX_advance e38) rfl sh_LX hp_LX rfl ⟨Nat.le_of_ble_eq_true rfl, Nat.le_of_ble_eq_true rfl⟩ (Nat.le_of_ble_eq_true rfl) (Nat.le_of_ble_eq_true rfl) rfl ?_
      refine x_aload_n d_QG_readComparison_41 rfl rfl ?_
      refine x_gC d_QG_readComparison_42 (f_QG_21 rfl) sh_QG hp_QG rfl ?_
      refine x_gR d_QG_readComparison_45 (f_QG_53 rfl) sh_LX hp_LX rfl ?_
      refine x_gets (i := 33) d_QG_readComparison_48 (by decide) w_528 ?_
      obtain ⟨g_51_0, h⟩ := x_gd h
      refine x_kacmp_ne (tgt := 88) d_QG_readComparison_51 (by decide) g_51_0 (x_kvN 33 (by decide)) (fun c_ => ?_) (fun c_ => ?_)
      · replace h := x_ie h c_
        refine x_aload_n d_QG_readComparison_88 rfl rfl ?_
        refine x_gC d_QG_readComparison_89 (f_QG_21 rfl) sh_QG hp_QG rfl ?_
        refine x_gR d_QG_readComparison_92 (f_QG_53 rfl) sh_LX hp_LX rfl ?_
        refine x_gets (i := 35) d_QG_readComparison_95 (by decide) w_554 ?_
        obtain ⟨g_98_0, h⟩ := x_gd h
        refine x_kacmp_ne (tgt := 108) d_QG_readComparison_98 (by decide) g_98_0 (x_kvN 35 (by decide)) (fun c_ => ?_) (fun c_ => ?_)
        · replace h := x_ie h c_
          refine x_aload_n d_QG_readComparison_108 rfl rfl ?_
          refine x_gC d_QG_readComparison_109 (f_QG_21 rfl) sh_QG hp_QG rfl ?_
          refine x_gR d_QG_readComparison_112 (f_QG_53 rfl) sh_LX hp_LX rfl ?_
          refine x_gets (i := 34) d_QG_readComparison_115 (by decide) w_565 ?_
          obtain ⟨g_118_0, h⟩ := x_gd h
          refine x_kacmp_ne (tgt := 130) d_QG_readComparison_118 (by decide) g_118_0 (x_kvN 34 (by decide)) (fun c_ => ?_) (fun c_ => ?_)
          · replace h := x_ie h c_
            refine x_aload_n d_QG_readComparison_130 rfl rfl ?_
            refine x_aload d_QG_readComparison_131 rfl ?_
            obtain ⟨r133, e133, h⟩ := x_bd h
            refine x_cVi (M2 := M_QG_readRelation) (As := [.ref r23.1]) (st := []) d_QG_readComparison_133 w_577 k_QG_readRelation (c_QG_readRelation (x_cp_ok g_23) e133) rfl sh_QG hp_QG rfl ⟨Nat.le_of_ble_eq_true rfl, Nat.le_of_ble_eq_true rfl⟩ (Nat.le_of_ble_eq_true rfl) (Nat.le_of_ble_eq_true rfl) rfl ?_
            refine x_sbk [] (lv2 := []) rfl ?_; exact b_QG_readComparison_136 hq1 h
          · replace h := x_it h c_
            refine x_aload_n d_QG_readComparison_121 rfl rfl ?_
            refine x_aload d_QG_readComparison_122 rfl ?_
            obtain ⟨r124, e124, h⟩ := x_bd h
            refine x_cVi (M2 := M_QG_readBetween) (As := [.ref r23.1]) (st := []) d_QG_readComparison_124 w_567 k_QG_readBetween (c_QG_readBetween (x_cp_ok g_23) e124) rfl sh_QG hp_QG rfl ⟨Nat.le_of_ble_eq_true rfl, Nat.le_of_ble_eq_true rfl⟩ (Nat.le_of_ble_eq_true rfl) (Nat.le_of_ble_eq_true rfl) rfl ?_
            refine x_goto (tgt := 136) d_QG_readComparison_127 (by decide) ?_
            refine x_sbk [] (lv2 := []) rfl ?_; exact b_QG_readComparison_136 hq1 h
        · replace h := x_it h c_
          refine x_aload_n d_QG_readComparison_101 rfl rfl ?_
          refine x_aload d_QG_readComparison_102 rfl ?_
          obtain ⟨r104, e104, h⟩ := x_bd h
          refine x_cVi (M2 := M_QG_readList) (As := [.ref r23.1]) (st := []) d_QG_readComparison_104 w_556 k_QG_readList (c_QG_readList (x_cp_ok g_23) e104) rfl sh_QG hp_QG rfl ⟨Nat.le_of_ble_eq_true rfl, Nat.le_of_ble_eq_true rfl⟩ (Nat.le_of_ble_eq_true rfl) (Nat.le_of_ble_eq_true rfl) rfl ?_
          obtain ⟨g_107, h⟩ := x_gd h
          cases h
          exact x_ri d_QG_readComparison_107 rfl (x_b1_ok g_107).1
      · replace h := x_it h c_
        refine x_aload d_QG_readComparison_54 rfl ?_
        refine x_iconst (v := 1) d_QG_readComparison_56 (by decide) ?_
        refine x_pI d_QG_readComparison_57 (f_QG_220 rfl) tb_CP rfl (sh_CP (x_cp_ok g_23)) (hp_CP (x_cp_ok g_23)) rfl ⟨rfl, rfl⟩ ?_
        refine x_aload_n d_QG_readComparison_60 rfl rfl ?_
        refine x_gC d_QG_readComparison_61 (f_QG_21 rfl) sh_QG hp_QG rfl ?_
        refine x_gets (i := 35) d_QG_readComparison_64 (by decide) w_554 ?_
        obtain ⟨r67, e67, h⟩ := x_bd h
        refine x_cVi (M2 := M_LX_next) (As := [.ref (x_N + 35)]) (st := []) d_QG_readComparison_67 w_492 k_LX_next (c_LX_next e67) rfl sh_LX hp_LX rfl ⟨Nat.le_of_ble_eq_true rfl, Nat.le_of_ble_eq_true rfl⟩ (Nat.le_of_ble_eq_true rfl) (Nat.le_of_ble_eq_true rfl) rfl ?_
        refine x_if_eq (tgt := 86) d_QG_readComparison_70 (by decide) (fun c_ => ?_) (fun c_ => ?_)
        · replace h := x_it h c_
          refine x_sbk [] (lv2 := []) rfl ?_; exact b_QG_readComparison_86 hq1 h
        · replace h := x_ie h c_
          refine x_aload_n d_QG_readComparison_73 rfl rfl ?_
          refine x_aload d_QG_readComparison_74 rfl ?_
          obtain ⟨r76, e76, h⟩ := x_bd h
          refine x_cVi (M2 := M_QG_readList) (As := [.ref r23.1]) (st := []) d_QG_readComparison_76 w_556 k_QG_readList (c_QG_readList (x_cp_ok g_23) e76) rfl sh_QG hp_QG rfl ⟨Nat.le_of_ble_eq_true rfl, Nat.le_of_ble_eq_true rfl⟩ (Nat.le_of_ble_eq_true rfl) (Nat.le_of_ble_eq_true rfl) rfl ?_
          refine x_if_eq (tgt := 86) d_QG_readComparison_79 (by decide) (fun c_ => ?_) (fun c_ => ?_)
          · replace h := x_it h c_
            refine x_sbk [] (lv2 := []) rfl ?_; exact b_QG_readComparison_86 hq1 h
          · replace h := x_ie h c_
            refine x_iconst (v := 1) d_QG_readComparison_82 (by decide) ?_
            refine x_goto (tgt := 87) d_QG_readComparison_83 (by decide) ?_
            refine x_sbk [] (lv2 := []) rfl ?_; exact b_QG_readComparison_87 hq1 h
    · replace h := x_it h c_
      refine x_sbk [] (lv2 := []) rfl ?_; exact b_QG_readComparison_20 hq1 h
def B_QG_readWhere_152  (K17 : Nat → Int32 → x_m → Option (Int32 × x_m)) (l1 : Nat) (l2 : Int32) (m : x_m) : Option (Int32 × x_m) := ((F_LX_advance m).bind fun r156 => K17 l1 (l2 + 1) r156)
theorem b_QG_readWhere_152 {G : x_G} {ex : Bool} {r : Int32 × x_m}  {K17 : Nat → Int32 → x_m → Option (Int32 × x_m)} (hK17 : ∀ (l1 : Nat) (l2 : Int32) (m : x_m), (x_CN l1) → K17 l1 l2 m = some r → x_W G M_QG_readWhere (x_rd 5) (x_Q G (x_rd 5) ex (x_pi r)) ex x_np (x_hp m) 0 0 [(0, .ref 114), (1, .ref l1), (2, .int l2)] [] 17) {l1 : Nat} (hl1 : x_CN l1) {l2 : Int32} {m : x_m} (h : B_QG_readWhere_152 K17 l1 l2 m = some r) : x_W G M_QG_readWhere (x_rd 5) (x_Q G (x_rd 5) ex (x_pi r)) ex x_np (x_hp m) 0 0 [(0, .ref 114), (1, .ref l1), (2, .int l2)] [] 152 := by
  unfold B_QG_readWhere_152 at h
  refine x_aload_n d_QG_readWhere_152 rfl rfl ?_
  refine x_gC d_QG_readWhere_153 (f_QG_21 rfl) sh_QG hp_QG rfl ?_
  obtain ⟨r156, e156, h⟩ := x_bd h
  refine x_cVv (M2 := M_LX_advance) (As := []) (st := []) d_QG_readWhere_156 w_451 k_LX_advance (c_LX_advance e156) rfl sh_LX hp_LX rfl ⟨Nat.le_of_ble_eq_true rfl, Nat.le_of_ble_eq_true rfl⟩ (Nat.le_of_ble_eq_true rfl) (Nat.le_of_ble_eq_true rfl) rfl ?_
  refine x_iinc (v := l2 + 1) (lv2 := [(0, .ref 114), (1, .ref l1), (2, .int (l2 + 1))]) d_QG_readWhere_159 rfl rfl (by decide) rfl ?_
  refine x_goto (tgt := 17) d_QG_readWhere_162 (by decide) ?_
  exact hK17 _ _ _ hl1 h
def B_QG_readWhere_151   (s0 : Int32) (m : x_m) : Option (Int32 × x_m) := (if x_b1 s0 = true then some (s0, m) else none)
theorem b_QG_readWhere_151 {G : x_G} {ex : Bool} {r : Int32 × x_m}   {s0 : Int32} {m : x_m} (h : B_QG_readWhere_151 s0 m = some r) : x_W G M_QG_readWhere (x_rd 5) (x_Q G (x_rd 5) ex (x_pi r)) ex x_np (x_hp m) 0 0 [] [.int s0] 151 := by
  unfold B_QG_readWhere_151 at h
  obtain ⟨g_151, h⟩ := x_gd h
  cases h
  exact x_ri d_QG_readWhere_151 rfl (x_b1_ok g_151).1
def B_QG_readWhere_146    (m : x_m) : Option (Int32 × x_m) := B_QG_readWhere_151 1 m
theorem b_QG_readWhere_146 {G : x_G} {ex : Bool} {r : Int32 × x_m}    {m : x_m} (h : B_QG_readWhere_146 m = some r) : x_W G M_QG_readWhere (x_rd 5) (x_Q G (x_rd 5) ex (x_pi r)) ex x_np (x_hp m) 0 0 [] [] 146 := by
  unfold B_QG_readWhere_146 at h
  refine x_iconst (v := 1) d_QG_readWhere_146 (by decide) ?_
  refine x_goto (tgt := 151) d_QG_readWhere_147 (by decide) ?_
  exact b_QG_readWhere_151 h
def B_QG_readWhere_17   : Nat → Nat → Int32 → x_m → Option (Int32 × x_m)
  | 0, _, _, _ => none
  | f_ + 1, l1, l2, m => (if 65536 < l2 then some (0, m) else (if x_kv (m.2.2.1 3 1) = true then (if (m.2.2.1 3 1) = (x_N + 33) then ((F_CN_negateNext l1 m).bind fun r37 => B_QG_readWhere_152 (B_QG_readWhere_17 f_) l1 l2 r37) else (if x_kv (m.2.2.1 3 1) = true then (if (m.2.2.1 3 1) = (x_N + 5) then ((F_CN_openBracket l1 m).bind fun r57 => (if r57.1 = 0 then ((F_LX_tellHere 7 r57.2).bind fun r69 => (if x_b1 r69.1 = true then some (r69.1, r69.2) else none)) else B_QG_readWhere_152 (B_QG_readWhere_17 f_) l1 l2 r57.2)) else ((F_QG_readComparison l1 m).bind fun r75 => (if r75.1 = 0 then some (0, r75.2) else ((F_CN_addComing l1 r75.2).bind fun r84 => ((F_QG_readClosings l1 r84).bind fun r89 => (if x_kv (r89.2.2.1 3 1) = true then (if (r89.2.2.1 3 1) = (x_N + 32) then ((F_CN_startAlternative l1 r89).bind fun r106 => B_QG_readWhere_152 (B_QG_readWhere_17 f_) l1 l2 r106) else (if x_kv (r89.2.2.1 3 1) = true then (if (r89.2.2.1 3 1) = (x_N + 31) then B_QG_readWhere_152 (B_QG_readWhere_17 f_) l1 l2 r89 else ((F_CN_finish l1 r89).bind fun r126 => (if (r126.1 l1 1) = 0 then B_QG_readWhere_146 r126 else ((F_LX_tellUnfit r126).bind fun r140 => (if r140.1 = 0 then B_QG_readWhere_151 0 r140.2 else B_QG_readWhere_146 r140.2))))) else none)) else none)))))) else none)) else none))
theorem b_QG_readWhere_17 {G : x_G} {ex : Bool} {r : Int32 × x_m}   : ∀ (f_ : Nat) (l1 : Nat) (l2 : Int32) (m : x_m), (x_CN l1) → B_QG_readWhere_17 f_ l1 l2 m = some r → x_W G M_QG_readWhere (x_rd 5) (x_Q G (x_rd 5) ex (x_pi r)) ex x_np (x_hp m) 0 0 [(0, .ref 114), (1, .ref l1), (2, .int l2)] [] 17 := by
  intro f_
  induction f_ with
  | zero => intro l1 l2 m hl1 h; exact nomatch h
  | succ f_ ih =>
    intro l1 l2 m hl1 h
    rw [B_QG_readWhere_17] at h
    have hK17 := ih
    refine x_iload_n d_QG_readWhere_17 rfl rfl ?_
    refine x_ldc (v := 65536) d_QG_readWhere_18 w_527 ?_
    refine x_icmp_gt (tgt := 165) d_QG_readWhere_20 (by decide) (fun c_ => ?_) (fun c_ => ?_)
    · replace h := x_it h c_
      refine x_iconst (v := 0) d_QG_readWhere_165 (by decide) ?_
      cases h
      exact x_ri d_QG_readWhere_166 rfl rfl
    · replace h := x_ie h c_
      refine x_aload_n d_QG_readWhere_23 rfl rfl ?_
      refine x_gC d_QG_readWhere_24 (f_QG_21 rfl) sh_QG hp_QG rfl ?_
      refine x_gR d_QG_readWhere_27 (f_QG_53 rfl) sh_LX hp_LX rfl ?_
      refine x_gets (i := 33) d_QG_readWhere_30 (by decide) w_528 ?_
      obtain ⟨g_33_0, h⟩ := x_gd h
      refine x_kacmp_ne (tgt := 43) d_QG_readWhere_33 (by decide) g_33_0 (x_kvN 33 (by decide)) (fun c_ => ?_) (fun c_ => ?_)
      · replace h := x_ie h c_
        refine x_aload_n d_QG_readWhere_43 rfl rfl ?_
        refine x_gC d_QG_readWhere_44 (f_QG_21 rfl) sh_QG hp_QG rfl ?_
        refine x_gR d_QG_readWhere_47 (f_QG_53 rfl) sh_LX hp_LX rfl ?_
        refine x_gets (i := 5) d_QG_readWhere_50 (by decide) w_504 ?_
        obtain ⟨g_53_0, h⟩ := x_gd h
        refine x_kacmp_ne (tgt := 73) d_QG_readWhere_53 (by decide) g_53_0 (x_kvN 5 (by decide)) (fun c_ => ?_) (fun c_ => ?_)
        · replace h := x_ie h c_
          refine x_aload_n d_QG_readWhere_73 rfl rfl ?_
          refine x_aload_n d_QG_readWhere_74 rfl rfl ?_
          obtain ⟨r75, e75, h⟩ := x_bd h
          refine x_cVi (M2 := M_QG_readComparison) (As := [.ref l1]) (st := []) d_QG_readWhere_75 w_538 k_QG_readComparison (c_QG_readComparison hl1 e75) rfl sh_QG hp_QG rfl ⟨Nat.le_of_ble_eq_true rfl, Nat.le_of_ble_eq_true rfl⟩ (Nat.le_of_ble_eq_true rfl) (Nat.le_of_ble_eq_true rfl) rfl ?_
          refine x_if_ne (tgt := 83) d_QG_readWhere_78 (by decide) (fun c_ => ?_) (fun c_ => ?_)
          · replace h := x_ie h c_
            refine x_aload_n d_QG_readWhere_83 rfl rfl ?_
            obtain ⟨r84, e84, h⟩ := x_bd h
            refine x_cVv (M2 := M_CN_addComing) (As := []) (st := []) d_QG_readWhere_84 w_611 k_CN_addComing (c_CN_addComing hl1 e84) rfl (sh_CN hl1) (hp_CN hl1) rfl ⟨Nat.le_of_ble_eq_true rfl, Nat.le_of_ble_eq_true rfl⟩ (Nat.le_of_ble_eq_true rfl) (Nat.le_of_ble_eq_true rfl) rfl ?_
            refine x_aload_n d_QG_readWhere_87 rfl rfl ?_
            refine x_aload_n d_QG_readWhere_88 rfl rfl ?_
            obtain ⟨r89, e89, h⟩ := x_bd h
            refine x_cVv (M2 := M_QG_readClosings) (As := [.ref l1]) (st := []) d_QG_readWhere_89 w_623 k_QG_readClosings (c_QG_readClosings hl1 e89) rfl sh_QG hp_QG rfl ⟨Nat.le_of_ble_eq_true rfl, Nat.le_of_ble_eq_true rfl⟩ (Nat.le_of_ble_eq_true rfl) (Nat.le_of_ble_eq_true rfl) rfl ?_
            refine x_aload_n d_QG_readWhere_92 rfl rfl ?_
            refine x_gC d_QG_readWhere_93 (f_QG_21 rfl) sh_QG hp_QG rfl ?_
            refine x_gR d_QG_readWhere_96 (f_QG_53 rfl) sh_LX hp_LX rfl ?_
            refine x_gets (i := 32) d_QG_readWhere_99 (by decide) w_635 ?_
            obtain ⟨g_102_0, h⟩ := x_gd h
            refine x_kacmp_ne (tgt := 112) d_QG_readWhere_102 (by decide) g_102_0 (x_kvN 32 (by decide)) (fun c_ => ?_) (fun c_ => ?_)
            · replace h := x_ie h c_
              refine x_aload_n d_QG_readWhere_112 rfl rfl ?_
              refine x_gC d_QG_readWhere_113 (f_QG_21 rfl) sh_QG hp_QG rfl ?_
              refine x_gR d_QG_readWhere_116 (f_QG_53 rfl) sh_LX hp_LX rfl ?_
              refine x_gets (i := 31) d_QG_readWhere_119 (by decide) w_571 ?_
              obtain ⟨g_122_0, h⟩ := x_gd h
              refine x_kacmp_eq (tgt := 152) d_QG_readWhere_122 (by decide) g_122_0 (x_kvN 31 (by decide)) (fun c_ => ?_) (fun c_ => ?_)
              · replace h := x_it h c_
                exact b_QG_readWhere_152 hK17 hl1 h
              · replace h := x_ie h c_
                refine x_aload_n d_QG_readWhere_125 rfl rfl ?_
                obtain ⟨r126, e126, h⟩ := x_bd h
                refine x_cVv (M2 := M_CN_finish) (As := []) (st := []) d_QG_readWhere_126 w_641 k_CN_finish (c_CN_finish hl1 e126) rfl (sh_CN hl1) (hp_CN hl1) rfl ⟨Nat.le_of_ble_eq_true rfl, Nat.le_of_ble_eq_true rfl⟩ (Nat.le_of_ble_eq_true rfl) (Nat.le_of_ble_eq_true rfl) rfl ?_
                refine x_aload_n d_QG_readWhere_129 rfl rfl ?_
                refine x_gI d_QG_readWhere_130 (f_QG_199 rfl) (sh_CN hl1) (hp_CN hl1) rfl ?_
                refine x_if_eq (tgt := 146) d_QG_readWhere_133 (by decide) (fun c_ => ?_) (fun c_ => ?_)
                · replace h := x_it h c_
                  refine x_sbk [] (lv2 := []) rfl ?_; exact b_QG_readWhere_146 h
                · replace h := x_ie h c_
                  refine x_aload_n d_QG_readWhere_136 rfl rfl ?_
                  refine x_gC d_QG_readWhere_137 (f_QG_21 rfl) sh_QG hp_QG rfl ?_
                  obtain ⟨r140, e140, h⟩ := x_bd h
                  refine x_cVi (M2 := M_LX_tellUnfit) (As := []) (st := []) d_QG_readWhere_140 w_596 k_LX_tellUnfit (c_LX_tellUnfit e140) rfl sh_LX hp_LX rfl ⟨Nat.le_of_ble_eq_true rfl, Nat.le_of_ble_eq_true rfl⟩ (Nat.le_of_ble_eq_true rfl) (Nat.le_of_ble_eq_true rfl) rfl ?_
                  refine x_if_eq (tgt := 150) d_QG_readWhere_143 (by decide) (fun c_ => ?_) (fun c_ => ?_)
                  · replace h := x_it h c_
                    refine x_iconst (v := 0) d_QG_readWhere_150 (by decide) ?_
                    refine x_sbk [] (lv2 := []) rfl ?_; exact b_QG_readWhere_151 h
                  · replace h := x_ie h c_
                    refine x_sbk [] (lv2 := []) rfl ?_; exact b_QG_readWhere_146 h
            · replace h := x_it h c_
              refine x_aload_n d_QG_readWhere_105 rfl rfl ?_
              obtain ⟨r106, e106, h⟩ := x_bd h
              refine x_cVv (M2 := M_CN_startAlternative) (As := []) (st := []) d_QG_readWhere_106 w_637 k_CN_startAlternative (c_CN_startAlternative hl1 e106) rfl (sh_CN hl1) (hp_CN hl1) rfl ⟨Nat.le_of_ble_eq_true rfl, Nat.le_of_ble_eq_true rfl⟩ (Nat.le_of_ble_eq_true rfl) (Nat.le_of_ble_eq_true rfl) rfl ?_
              refine x_goto (tgt := 152) d_QG_readWhere_109 (by decide) ?_
              exact b_QG_readWhere_152 hK17 hl1 h
          · replace h := x_it h c_
            refine x_iconst (v := 0) d_QG_readWhere_81 (by decide) ?_
            cases h
            exact x_ri d_QG_readWhere_82 rfl rfl
        · replace h := x_it h c_
          refine x_aload_n d_QG_readWhere_56 rfl rfl ?_
          obtain ⟨r57, e57, h⟩ := x_bd h
          refine x_cVi (M2 := M_CN_openBracket) (As := []) (st := []) d_QG_readWhere_57 w_534 k_CN_openBracket (c_CN_openBracket hl1 e57) rfl (sh_CN hl1) (hp_CN hl1) rfl ⟨Nat.le_of_ble_eq_true rfl, Nat.le_of_ble_eq_true rfl⟩ (Nat.le_of_ble_eq_true rfl) (Nat.le_of_ble_eq_true rfl) rfl ?_
          refine x_if_ne (tgt := 152) d_QG_readWhere_60 (by decide) (fun c_ => ?_) (fun c_ => ?_)
          · replace h := x_ie h c_
            exact b_QG_readWhere_152 hK17 hl1 h
          · replace h := x_it h c_
            refine x_aload_n d_QG_readWhere_63 rfl rfl ?_
            refine x_gC d_QG_readWhere_64 (f_QG_21 rfl) sh_QG hp_QG rfl ?_
            refine x_bipush (v := 7) d_QG_readWhere_67 (by decide) ?_
            obtain ⟨r69, e69, h⟩ := x_bd h
            refine x_cVi (M2 := M_LX_tellHere) (As := [.int 7]) (st := []) d_QG_readWhere_69 w_434 k_LX_tellHere (c_LX_tellHere e69) rfl sh_LX hp_LX rfl ⟨Nat.le_of_ble_eq_true rfl, Nat.le_of_ble_eq_true rfl⟩ (Nat.le_of_ble_eq_true rfl) (Nat.le_of_ble_eq_true rfl) rfl ?_
            obtain ⟨g_72, h⟩ := x_gd h
            cases h
            exact x_ri d_QG_readWhere_72 rfl (x_b1_ok g_72).1
      · replace h := x_it h c_
        refine x_aload_n d_QG_readWhere_36 rfl rfl ?_
        obtain ⟨r37, e37, h⟩ := x_bd h
        refine x_cVv (M2 := M_CN_negateNext) (As := []) (st := []) d_QG_readWhere_37 w_530 k_CN_negateNext (c_CN_negateNext hl1 e37) rfl (sh_CN hl1) (hp_CN hl1) rfl ⟨Nat.le_of_ble_eq_true rfl, Nat.le_of_ble_eq_true rfl⟩ (Nat.le_of_ble_eq_true rfl) (Nat.le_of_ble_eq_true rfl) rfl ?_
        refine x_goto (tgt := 152) d_QG_readWhere_40 (by decide) ?_
        exact b_QG_readWhere_152 hK17 hl1 h
def F_QG_readWhere   (m : x_m) : Option (Int32 × x_m) := (if x_qb (m.2.2.1 114 4) = true then ((F_LX_advance m).bind fun r12 => B_QG_readWhere_17 x_fu (m.2.2.1 114 4 + 6) 0 r12) else none)
theorem c_QG_readWhere {G : x_G} {ex : Bool} {r : Int32 × x_m}   {m : x_m} (h : F_QG_readWhere m = some r) : x_R G M_QG_readWhere (x_rd 5) ex [.ref 114] x_np (x_hp m) (x_pi r) := by
  unfold F_QG_readWhere at h
  show x_W G M_QG_readWhere (x_rd 5) (x_Q G (x_rd 5) ex (x_pi r)) ex x_np (x_hp m) 0 0 [(0, .ref 114)] [] 0
  refine x_aload_n d_QG_readWhere_0 rfl rfl ?_
  refine x_gR d_QG_readWhere_1 (f_QG_18 rfl) sh_QG hp_QG rfl ?_
  obtain ⟨g_1, h⟩ := x_gd h
  refine x_gC d_QG_readWhere_4 (f_QG_158 rfl) (sh_QU (x_qb_ok g_1)) (hp_QU (x_qb_ok g_1)) rfl ?_
  refine x_astore_n (lv2 := [(0, .ref 114), (1, .ref (m.2.2.1 114 4 + 6))]) d_QG_readWhere_7 rfl (by decide) rfl ?_
  refine x_aload_n d_QG_readWhere_8 rfl rfl ?_
  refine x_gC d_QG_readWhere_9 (f_QG_21 rfl) sh_QG hp_QG rfl ?_
  obtain ⟨r12, e12, h⟩ := x_bd h
  refine x_cVv (M2 := M_LX_advance) (As := []) (st := []) d_QG_readWhere_12 w_451 k_LX_advance (c_LX_advance e12) rfl sh_LX hp_LX rfl ⟨Nat.le_of_ble_eq_true rfl, Nat.le_of_ble_eq_true rfl⟩ (Nat.le_of_ble_eq_true rfl) (Nat.le_of_ble_eq_true rfl) rfl ?_
  refine x_iconst (v := 0) d_QG_readWhere_15 (by decide) ?_
  refine x_istore_n (lv2 := [(0, .ref 114), (1, .ref (m.2.2.1 114 4 + 6)), (2, .int 0)]) d_QG_readWhere_16 rfl (by decide) rfl ?_
  exact b_QG_readWhere_17 _ _ _ _ (x_CN_of (x_qb_ok g_1)) h
