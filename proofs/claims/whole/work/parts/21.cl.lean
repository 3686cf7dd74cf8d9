def M_DM_fits : x_M := (⟨"QuestionReader$Dimension", "fits", "(I)Z"⟩, prog_6_method_3_code, 4, some (.boolean), [])
theorem d_DM_fits_0 : decode M_DM_fits.2.1 0 = .ok (.iconst 0, 1) := by decide +kernel
theorem d_DM_fits_1 : decode M_DM_fits.2.1 1 = .ok (.istore_n 2, 1) := by decide +kernel
theorem d_DM_fits_2 : decode M_DM_fits.2.1 2 = .ok (.iload_n 2, 1) := by decide +kernel
theorem d_DM_fits_3 : decode M_DM_fits.2.1 3 = .ok (.aload_n 0, 1) := by decide +kernel
theorem d_DM_fits_4 : decode M_DM_fits.2.1 4 = .ok (.getfield 26, 3) := by decide +kernel
theorem d_DM_fits_7 : decode M_DM_fits.2.1 7 = .ok (.if_icmp .ge 41, 3) := by decide +kernel
theorem d_DM_fits_10 : decode M_DM_fits.2.1 10 = .ok (.aload_n 0, 1) := by decide +kernel
theorem d_DM_fits_11 : decode M_DM_fits.2.1 11 = .ok (.iload_n 2, 1) := by decide +kernel
theorem d_DM_fits_12 : decode M_DM_fits.2.1 12 = .ok (.iload_n 1, 1) := by decide +kernel
theorem d_DM_fits_13 : decode M_DM_fits.2.1 13 = .ok (.invokevirtual 30, 3) := by decide +kernel
theorem d_DM_fits_16 : decode M_DM_fits.2.1 16 = .ok (.istore_n 3, 1) := by decide +kernel
theorem d_DM_fits_17 : decode M_DM_fits.2.1 17 = .ok (.iload_n 3, 1) := by decide +kernel
theorem d_DM_fits_18 : decode M_DM_fits.2.1 18 = .ok (.iload_n 1, 1) := by decide +kernel
theorem d_DM_fits_19 : decode M_DM_fits.2.1 19 = .ok (.if_icmp .ge 23, 3) := by decide +kernel
theorem d_DM_fits_22 : decode M_DM_fits.2.1 22 = .ok (.iload_n 2, 1) := by decide +kernel
theorem d_DM_fits_23 : decode M_DM_fits.2.1 23 = .ok (.ifCond .le 17, 3) := by decide +kernel
theorem d_DM_fits_26 : decode M_DM_fits.2.1 26 = .ok (.aload_n 0, 1) := by decide +kernel
theorem d_DM_fits_27 : decode M_DM_fits.2.1 27 = .ok (.iload_n 2, 1) := by decide +kernel
theorem d_DM_fits_28 : decode M_DM_fits.2.1 28 = .ok (.iload_n 3, 1) := by decide +kernel
theorem d_DM_fits_29 : decode M_DM_fits.2.1 29 = .ok (.iload_n 1, 1) := by decide +kernel
theorem d_DM_fits_30 : decode M_DM_fits.2.1 30 = .ok (.invokevirtual 34, 3) := by decide +kernel
theorem d_DM_fits_33 : decode M_DM_fits.2.1 33 = .ok (.ifCond .eq 7, 3) := by decide +kernel
theorem d_DM_fits_36 : decode M_DM_fits.2.1 36 = .ok (.iconst 1, 1) := by decide +kernel
theorem d_DM_fits_37 : decode M_DM_fits.2.1 37 = .ok (.goto 4, 3) := by decide +kernel
theorem d_DM_fits_40 : decode M_DM_fits.2.1 40 = .ok (.iconst 0, 1) := by decide +kernel
theorem d_DM_fits_41 : decode M_DM_fits.2.1 41 = .ok (.ireturn, 1) := by decide +kernel
theorem d_DM_fits_42 : decode M_DM_fits.2.1 42 = .ok (.iinc 2 1, 3) := by decide +kernel
theorem d_DM_fits_45 : decode M_DM_fits.2.1 45 = .ok (.goto (-43), 3) := by decide +kernel
theorem d_DM_fits_48 : decode M_DM_fits.2.1 48 = .ok (.iconst 1, 1) := by decide +kernel
theorem d_DM_fits_49 : decode M_DM_fits.2.1 49 = .ok (.ireturn, 1) := by decide +kernel
theorem k_DM_fits : x_kV M_DM_fits "QuestionReader$Dimension" 1 := ⟨⟨by decide, Or.inl ⟨w_764, rfl⟩⟩, w_762, w_763, ⟨by decide, by decide⟩, by decide +kernel⟩
def M_NM_read : x_M := (⟨"QuestionReader$Names", "read", "(IILQuestionReader$Lexer;)I"⟩, prog_9_method_4_code, 5, some (.int), [])
theorem d_NM_read_0 : decode M_NM_read.2.1 0 = .ok (.aload_n 3, 1) := by decide +kernel
theorem d_NM_read_1 : decode M_NM_read.2.1 1 = .ok (.invokevirtual 43, 3) := by decide +kernel
theorem d_NM_read_4 : decode M_NM_read.2.1 4 = .ok (.ifCond .ne 5, 3) := by decide +kernel
theorem d_NM_read_7 : decode M_NM_read.2.1 7 = .ok (.iconst (-1), 1) := by decide +kernel
theorem d_NM_read_8 : decode M_NM_read.2.1 8 = .ok (.ireturn, 1) := by decide +kernel
theorem d_NM_read_9 : decode M_NM_read.2.1 9 = .ok (.aload_n 0, 1) := by decide +kernel
theorem d_NM_read_10 : decode M_NM_read.2.1 10 = .ok (.iload_n 1, 1) := by decide +kernel
theorem d_NM_read_11 : decode M_NM_read.2.1 11 = .ok (.iload_n 2, 1) := by decide +kernel
theorem d_NM_read_12 : decode M_NM_read.2.1 12 = .ok (.aload_n 3, 1) := by decide +kernel
theorem d_NM_read_13 : decode M_NM_read.2.1 13 = .ok (.invokevirtual 47, 3) := by decide +kernel
theorem d_NM_read_16 : decode M_NM_read.2.1 16 = .ok (.istore 4, 2) := by decide +kernel
theorem d_NM_read_18 : decode M_NM_read.2.1 18 = .ok (.iload 4, 2) := by decide +kernel
theorem d_NM_read_20 : decode M_NM_read.2.1 20 = .ok (.iconst (-1), 1) := by decide +kernel
theorem d_NM_read_21 : decode M_NM_read.2.1 21 = .ok (.if_icmp .ne 9, 3) := by decide +kernel
theorem d_NM_read_24 : decode M_NM_read.2.1 24 = .ok (.aload_n 3, 1) := by decide +kernel
theorem d_NM_read_25 : decode M_NM_read.2.1 25 = .ok (.iconst 5, 1) := by decide +kernel
theorem d_NM_read_26 : decode M_NM_read.2.1 26 = .ok (.invokevirtual 51, 3) := by decide +kernel
theorem d_NM_read_29 : decode M_NM_read.2.1 29 = .ok (.pop, 1) := by decide +kernel
theorem d_NM_read_30 : decode M_NM_read.2.1 30 = .ok (.iload 4, 2) := by decide +kernel
theorem d_NM_read_32 : decode M_NM_read.2.1 32 = .ok (.ireturn, 1) := by decide +kernel
theorem k_NM_read : x_kV M_NM_read "QuestionReader$Names" 3 := ⟨⟨by decide, Or.inl ⟨w_476, rfl⟩⟩, w_474, w_475, ⟨by decide, by decide⟩, by decide +kernel⟩
def M_LX_tellUnfit : x_M := (⟨"QuestionReader$Lexer", "tellUnfit", "()Z"⟩, prog_8_method_7_code, 1, some (.boolean), [])
theorem d_LX_tellUnfit_0 : decode M_LX_tellUnfit.2.1 0 = .ok (.aload_n 0, 1) := by decide +kernel
theorem d_LX_tellUnfit_1 : decode M_LX_tellUnfit.2.1 1 = .ok (.aload_n 0, 1) := by decide +kernel
theorem d_LX_tellUnfit_2 : decode M_LX_tellUnfit.2.1 2 = .ok (.getfield 44, 3) := by decide +kernel
theorem d_LX_tellUnfit_5 : decode M_LX_tellUnfit.2.1 5 = .ok (.aload_n 0, 1) := by decide +kernel
theorem d_LX_tellUnfit_6 : decode M_LX_tellUnfit.2.1 6 = .ok (.getfield 37, 3) := by decide +kernel
theorem d_LX_tellUnfit_9 : decode M_LX_tellUnfit.2.1 9 = .ok (.invokevirtual 101, 3) := by decide +kernel
theorem d_LX_tellUnfit_12 : decode M_LX_tellUnfit.2.1 12 = .ok (.ireturn, 1) := by decide +kernel
theorem k_LX_tellUnfit : x_kV M_LX_tellUnfit "QuestionReader$Lexer" 0 := ⟨⟨by decide, Or.inl ⟨w_599, rfl⟩⟩, w_597, w_598, ⟨by decide, by decide⟩, by decide +kernel⟩
def M_LX_restart : x_M := (⟨"QuestionReader$Lexer", "restart", "()V"⟩, prog_8_method_2_code, 1, none, [])
theorem d_LX_restart_0 : decode M_LX_restart.2.1 0 = .ok (.aload_n 0, 1) := by decide +kernel
theorem d_LX_restart_1 : decode M_LX_restart.2.1 1 = .ok (.iconst 0, 1) := by decide +kernel
theorem d_LX_restart_2 : decode M_LX_restart.2.1 2 = .ok (.putfield 28, 3) := by decide +kernel
theorem d_LX_restart_5 : decode M_LX_restart.2.1 5 = .ok (.aload_n 0, 1) := by decide +kernel
theorem d_LX_restart_6 : decode M_LX_restart.2.1 6 = .ok (.iconst 0, 1) := by decide +kernel
theorem d_LX_restart_7 : decode M_LX_restart.2.1 7 = .ok (.putfield 31, 3) := by decide +kernel
theorem d_LX_restart_10 : decode M_LX_restart.2.1 10 = .ok (.aload_n 0, 1) := by decide +kernel
theorem d_LX_restart_11 : decode M_LX_restart.2.1 11 = .ok (.iconst (-1), 1) := by decide +kernel
theorem d_LX_restart_12 : decode M_LX_restart.2.1 12 = .ok (.putfield 20, 3) := by decide +kernel
theorem d_LX_restart_15 : decode M_LX_restart.2.1 15 = .ok (.return_, 1) := by decide +kernel
theorem k_LX_restart : x_kV M_LX_restart "QuestionReader$Lexer" 0 := ⟨⟨by decide, Or.inl ⟨w_373, rfl⟩⟩, w_371, w_372, ⟨by decide, by decide⟩, by decide +kernel⟩
def M_QU_addColumn : x_M := (⟨"QuestionReader$Question", "addColumn", "(I)V"⟩, prog_10_method_6_code, 2, none, [])
theorem d_QU_addColumn_0 : decode M_QU_addColumn.2.1 0 = .ok (.aload_n 0, 1) := by decide +kernel
theorem d_QU_addColumn_1 : decode M_QU_addColumn.2.1 1 = .ok (.getfield 38, 3) := by decide +kernel
theorem d_QU_addColumn_4 : decode M_QU_addColumn.2.1 4 = .ok (.bipush 8, 2) := by decide +kernel
theorem d_QU_addColumn_6 : decode M_QU_addColumn.2.1 6 = .ok (.if_icmp .ge 23, 3) := by decide +kernel
theorem d_QU_addColumn_9 : decode M_QU_addColumn.2.1 9 = .ok (.aload_n 0, 1) := by decide +kernel
theorem d_QU_addColumn_10 : decode M_QU_addColumn.2.1 10 = .ok (.getfield 21, 3) := by decide +kernel
theorem d_QU_addColumn_13 : decode M_QU_addColumn.2.1 13 = .ok (.aload_n 0, 1) := by decide +kernel
theorem d_QU_addColumn_14 : decode M_QU_addColumn.2.1 14 = .ok (.getfield 38, 3) := by decide +kernel
theorem d_QU_addColumn_17 : decode M_QU_addColumn.2.1 17 = .ok (.iload_n 1, 1) := by decide +kernel
theorem d_QU_addColumn_18 : decode M_QU_addColumn.2.1 18 = .ok (.iastore, 1) := by decide +kernel
theorem d_QU_addColumn_19 : decode M_QU_addColumn.2.1 19 = .ok (.aload_n 0, 1) := by decide +kernel
theorem d_QU_addColumn_20 : decode M_QU_addColumn.2.1 20 = .ok (.dup, 1) := by decide +kernel
theorem d_QU_addColumn_21 : decode M_QU_addColumn.2.1 21 = .ok (.getfield 38, 3) := by decide +kernel
theorem d_QU_addColumn_24 : decode M_QU_addColumn.2.1 24 = .ok (.iconst 1, 1) := by decide +kernel
theorem d_QU_addColumn_25 : decode M_QU_addColumn.2.1 25 = .ok (.iadd, 1) := by decide +kernel
theorem d_QU_addColumn_26 : decode M_QU_addColumn.2.1 26 = .ok (.putfield 38, 3) := by decide +kernel
theorem d_QU_addColumn_29 : decode M_QU_addColumn.2.1 29 = .ok (.return_, 1) := by decide +kernel
theorem k_QU_addColumn : x_kV M_QU_addColumn "QuestionReader$Question" 1 := ⟨⟨by decide, Or.inl ⟨w_669, rfl⟩⟩, w_667, w_668, ⟨by decide, by decide⟩, by decide +kernel⟩
def M_QU_hasColumn : x_M := (⟨"QuestionReader$Question", "hasColumn", "(I)Z"⟩, prog_10_method_7_code, 3, some (.boolean), [])
theorem d_QU_hasColumn_0 : decode M_QU_hasColumn.2.1 0 = .ok (.iconst 0, 1) := by decide +kernel
theorem d_QU_hasColumn_1 : decode M_QU_hasColumn.2.1 1 = .ok (.istore_n 2, 1) := by decide +kernel
theorem d_QU_hasColumn_2 : decode M_QU_hasColumn.2.1 2 = .ok (.iload_n 2, 1) := by decide +kernel
theorem d_QU_hasColumn_3 : decode M_QU_hasColumn.2.1 3 = .ok (.aload_n 0, 1) := by decide +kernel
theorem d_QU_hasColumn_4 : decode M_QU_hasColumn.2.1 4 = .ok (.getfield 38, 3) := by decide +kernel
theorem d_QU_hasColumn_7 : decode M_QU_hasColumn.2.1 7 = .ok (.if_icmp .ge 21, 3) := by decide +kernel
theorem d_QU_hasColumn_10 : decode M_QU_hasColumn.2.1 10 = .ok (.aload_n 0, 1) := by decide +kernel
theorem d_QU_hasColumn_11 : decode M_QU_hasColumn.2.1 11 = .ok (.getfield 21, 3) := by decide +kernel
theorem d_QU_hasColumn_14 : decode M_QU_hasColumn.2.1 14 = .ok (.iload_n 2, 1) := by decide +kernel
theorem d_QU_hasColumn_15 : decode M_QU_hasColumn.2.1 15 = .ok (.iaload, 1) := by decide +kernel
theorem d_QU_hasColumn_16 : decode M_QU_hasColumn.2.1 16 = .ok (.iload_n 1, 1) := by decide +kernel
theorem d_QU_hasColumn_17 : decode M_QU_hasColumn.2.1 17 = .ok (.if_icmp .ne 5, 3) := by decide +kernel
theorem d_QU_hasColumn_20 : decode M_QU_hasColumn.2.1 20 = .ok (.iconst 1, 1) := by decide +kernel
theorem d_QU_hasColumn_21 : decode M_QU_hasColumn.2.1 21 = .ok (.ireturn, 1) := by decide +kernel
theorem d_QU_hasColumn_22 : decode M_QU_hasColumn.2.1 22 = .ok (.iinc 2 1, 3) := by decide +kernel
theorem d_QU_hasColumn_25 : decode M_QU_hasColumn.2.1 25 = .ok (.goto (-23), 3) := by decide +kernel
theorem d_QU_hasColumn_28 : decode M_QU_hasColumn.2.1 28 = .ok (.iconst 0, 1) := by decide +kernel
theorem d_QU_hasColumn_29 : decode M_QU_hasColumn.2.1 29 = .ok (.ireturn, 1) := by decide +kernel
theorem k_QU_hasColumn : x_kV M_QU_hasColumn "QuestionReader$Question" 1 := ⟨⟨by decide, Or.inl ⟨w_664, rfl⟩⟩, w_662, w_663, ⟨by decide, by decide⟩, by decide +kernel⟩
def M_QU_chosenColumns : x_M := (⟨"QuestionReader$Question", "chosenColumns", "(LQuestionReader$Kind;II)I"⟩, prog_10_method_10_code, 4, some (.int), [])
theorem d_QU_chosenColumns_0 : decode M_QU_chosenColumns.2.1 0 = .ok (.iconst 1, 1) := by decide +kernel
theorem d_QU_chosenColumns_1 : decode M_QU_chosenColumns.2.1 1 = .ok (.iload_n 1, 1) := by decide +kernel
theorem d_QU_chosenColumns_2 : decode M_QU_chosenColumns.2.1 2 = .ok (.ishl, 1) := by decide +kernel
theorem d_QU_chosenColumns_3 : decode M_QU_chosenColumns.2.1 3 = .ok (.iconst 1, 1) := by decide +kernel
theorem d_QU_chosenColumns_4 : decode M_QU_chosenColumns.2.1 4 = .ok (.isub, 1) := by decide +kernel
theorem d_QU_chosenColumns_5 : decode M_QU_chosenColumns.2.1 5 = .ok (.istore_n 3, 1) := by decide +kernel
theorem d_QU_chosenColumns_6 : decode M_QU_chosenColumns.2.1 6 = .ok (.aload_n 0, 1) := by decide +kernel
theorem d_QU_chosenColumns_7 : decode M_QU_chosenColumns.2.1 7 = .ok (.getstatic 54, 3) := by decide +kernel
theorem d_QU_chosenColumns_10 : decode M_QU_chosenColumns.2.1 10 = .ok (.if_acmp .ne 9, 3) := by decide +kernel
theorem d_QU_chosenColumns_13 : decode M_QU_chosenColumns.2.1 13 = .ok (.iload_n 3, 1) := by decide +kernel
theorem d_QU_chosenColumns_14 : decode M_QU_chosenColumns.2.1 14 = .ok (.iload_n 2, 1) := by decide +kernel
theorem d_QU_chosenColumns_15 : decode M_QU_chosenColumns.2.1 15 = .ok (.ishr, 1) := by decide +kernel
theorem d_QU_chosenColumns_16 : decode M_QU_chosenColumns.2.1 16 = .ok (.goto 6, 3) := by decide +kernel
theorem d_QU_chosenColumns_19 : decode M_QU_chosenColumns.2.1 19 = .ok (.iload_n 3, 1) := by decide +kernel
theorem d_QU_chosenColumns_20 : decode M_QU_chosenColumns.2.1 20 = .ok (.iload_n 2, 1) := by decide +kernel
theorem d_QU_chosenColumns_21 : decode M_QU_chosenColumns.2.1 21 = .ok (.isub, 1) := by decide +kernel
theorem d_QU_chosenColumns_22 : decode M_QU_chosenColumns.2.1 22 = .ok (.ireturn, 1) := by decide +kernel
theorem k_QU_chosenColumns : x_kS M_QU_chosenColumns 3 := ⟨⟨by decide, Or.inl ⟨w_678, rfl⟩⟩, w_677, w_11, ⟨by decide, by decide⟩, by decide +kernel⟩
def M_QU_addGroup : x_M := (⟨"QuestionReader$Question", "addGroup", "(LQuestionReader$Kind;I)Z"⟩, prog_10_method_8_code, 8, some (.boolean), [])
theorem d_QU_addGroup_0 : decode M_QU_addGroup.2.1 0 = .ok (.aload_n 1, 1) := by decide +kernel
theorem d_QU_addGroup_1 : decode M_QU_addGroup.2.1 1 = .ok (.getstatic 48, 3) := by decide +kernel
theorem d_QU_addGroup_4 : decode M_QU_addGroup.2.1 4 = .ok (.if_acmp .ne 9, 3) := by decide +kernel
theorem d_QU_addGroup_7 : decode M_QU_addGroup.2.1 7 = .ok (.iconst 1, 1) := by decide +kernel
theorem d_QU_addGroup_8 : decode M_QU_addGroup.2.1 8 = .ok (.iload_n 2, 1) := by decide +kernel
theorem d_QU_addGroup_9 : decode M_QU_addGroup.2.1 9 = .ok (.ishl, 1) := by decide +kernel
theorem d_QU_addGroup_10 : decode M_QU_addGroup.2.1 10 = .ok (.goto 17, 3) := by decide +kernel
theorem d_QU_addGroup_13 : decode M_QU_addGroup.2.1 13 = .ok (.aload_n 1, 1) := by decide +kernel
theorem d_QU_addGroup_14 : decode M_QU_addGroup.2.1 14 = .ok (.getstatic 54, 3) := by decide +kernel
theorem d_QU_addGroup_17 : decode M_QU_addGroup.2.1 17 = .ok (.if_acmp .ne 9, 3) := by decide +kernel
theorem d_QU_addGroup_20 : decode M_QU_addGroup.2.1 20 = .ok (.iload_n 2, 1) := by decide +kernel
theorem d_QU_addGroup_21 : decode M_QU_addGroup.2.1 21 = .ok (.iconst 1, 1) := by decide +kernel
theorem d_QU_addGroup_22 : decode M_QU_addGroup.2.1 22 = .ok (.iadd, 1) := by decide +kernel
theorem d_QU_addGroup_23 : decode M_QU_addGroup.2.1 23 = .ok (.goto 4, 3) := by decide +kernel
theorem d_QU_addGroup_26 : decode M_QU_addGroup.2.1 26 = .ok (.iconst 1, 1) := by decide +kernel
theorem d_QU_addGroup_27 : decode M_QU_addGroup.2.1 27 = .ok (.istore_n 3, 1) := by decide +kernel
theorem d_QU_addGroup_28 : decode M_QU_addGroup.2.1 28 = .ok (.iload_n 3, 1) := by decide +kernel
theorem d_QU_addGroup_29 : decode M_QU_addGroup.2.1 29 = .ok (.aload_n 0, 1) := by decide +kernel
theorem d_QU_addGroup_30 : decode M_QU_addGroup.2.1 30 = .ok (.getfield 41, 3) := by decide +kernel
theorem d_QU_addGroup_33 : decode M_QU_addGroup.2.1 33 = .ok (.imul, 1) := by decide +kernel
theorem d_QU_addGroup_34 : decode M_QU_addGroup.2.1 34 = .ok (.bipush 32, 2) := by decide +kernel
theorem d_QU_addGroup_36 : decode M_QU_addGroup.2.1 36 = .ok (.if_icmp .gt 11, 3) := by decide +kernel
theorem d_QU_addGroup_39 : decode M_QU_addGroup.2.1 39 = .ok (.iload_n 2, 1) := by decide +kernel
theorem d_QU_addGroup_40 : decode M_QU_addGroup.2.1 40 = .ok (.aload_n 0, 1) := by decide +kernel
theorem d_QU_addGroup_41 : decode M_QU_addGroup.2.1 41 = .ok (.getfield 38, 3) := by decide +kernel
theorem d_QU_addGroup_44 : decode M_QU_addGroup.2.1 44 = .ok (.if_icmp .le 5, 3) := by decide +kernel
theorem d_QU_addGroup_47 : decode M_QU_addGroup.2.1 47 = .ok (.iconst 0, 1) := by decide +kernel
theorem d_QU_addGroup_48 : decode M_QU_addGroup.2.1 48 = .ok (.ireturn, 1) := by decide +kernel
theorem d_QU_addGroup_49 : decode M_QU_addGroup.2.1 49 = .ok (.aload_n 0, 1) := by decide +kernel
theorem d_QU_addGroup_50 : decode M_QU_addGroup.2.1 50 = .ok (.getfield 38, 3) := by decide +kernel
theorem d_QU_addGroup_53 : decode M_QU_addGroup.2.1 53 = .ok (.iload_n 2, 1) := by decide +kernel
theorem d_QU_addGroup_54 : decode M_QU_addGroup.2.1 54 = .ok (.isub, 1) := by decide +kernel
theorem d_QU_addGroup_55 : decode M_QU_addGroup.2.1 55 = .ok (.istore 4, 2) := by decide +kernel
theorem d_QU_addGroup_57 : decode M_QU_addGroup.2.1 57 = .ok (.iload_n 3, 1) := by decide +kernel
theorem d_QU_addGroup_58 : decode M_QU_addGroup.2.1 58 = .ok (.iconst 1, 1) := by decide +kernel
theorem d_QU_addGroup_59 : decode M_QU_addGroup.2.1 59 = .ok (.isub, 1) := by decide +kernel
theorem d_QU_addGroup_60 : decode M_QU_addGroup.2.1 60 = .ok (.istore 5, 2) := by decide +kernel
theorem d_QU_addGroup_62 : decode M_QU_addGroup.2.1 62 = .ok (.iload 5, 2) := by decide +kernel
theorem d_QU_addGroup_64 : decode M_QU_addGroup.2.1 64 = .ok (.ifCond .lt 64, 3) := by decide +kernel
theorem d_QU_addGroup_67 : decode M_QU_addGroup.2.1 67 = .ok (.aload_n 1, 1) := by decide +kernel
theorem d_QU_addGroup_68 : decode M_QU_addGroup.2.1 68 = .ok (.iload_n 2, 1) := by decide +kernel
theorem d_QU_addGroup_69 : decode M_QU_addGroup.2.1 69 = .ok (.iload 5, 2) := by decide +kernel
theorem d_QU_addGroup_71 : decode M_QU_addGroup.2.1 71 = .ok (.invokestatic 57, 3) := by decide +kernel
theorem d_QU_addGroup_74 : decode M_QU_addGroup.2.1 74 = .ok (.iload 4, 2) := by decide +kernel
theorem d_QU_addGroup_76 : decode M_QU_addGroup.2.1 76 = .ok (.ishl, 1) := by decide +kernel
theorem d_QU_addGroup_77 : decode M_QU_addGroup.2.1 77 = .ok (.istore 6, 2) := by decide +kernel
theorem d_QU_addGroup_79 : decode M_QU_addGroup.2.1 79 = .ok (.iconst 0, 1) := by decide +kernel
theorem d_QU_addGroup_80 : decode M_QU_addGroup.2.1 80 = .ok (.istore 7, 2) := by decide +kernel
theorem d_QU_addGroup_82 : decode M_QU_addGroup.2.1 82 = .ok (.iload 7, 2) := by decide +kernel
theorem d_QU_addGroup_84 : decode M_QU_addGroup.2.1 84 = .ok (.aload_n 0, 1) := by decide +kernel
theorem d_QU_addGroup_85 : decode M_QU_addGroup.2.1 85 = .ok (.getfield 41, 3) := by decide +kernel
theorem d_QU_addGroup_88 : decode M_QU_addGroup.2.1 88 = .ok (.if_icmp .ge 34, 3) := by decide +kernel
theorem d_QU_addGroup_91 : decode M_QU_addGroup.2.1 91 = .ok (.aload_n 0, 1) := by decide +kernel
theorem d_QU_addGroup_92 : decode M_QU_addGroup.2.1 92 = .ok (.getfield 24, 3) := by decide +kernel
theorem d_QU_addGroup_95 : decode M_QU_addGroup.2.1 95 = .ok (.iload 5, 2) := by decide +kernel
theorem d_QU_addGroup_97 : decode M_QU_addGroup.2.1 97 = .ok (.aload_n 0, 1) := by decide +kernel
theorem d_QU_addGroup_98 : decode M_QU_addGroup.2.1 98 = .ok (.getfield 41, 3) := by decide +kernel
theorem d_QU_addGroup_101 : decode M_QU_addGroup.2.1 101 = .ok (.imul, 1) := by decide +kernel
theorem d_QU_addGroup_102 : decode M_QU_addGroup.2.1 102 = .ok (.iload 7, 2) := by decide +kernel
theorem d_QU_addGroup_104 : decode M_QU_addGroup.2.1 104 = .ok (.iadd, 1) := by decide +kernel
theorem d_QU_addGroup_105 : decode M_QU_addGroup.2.1 105 = .ok (.aload_n 0, 1) := by decide +kernel
theorem d_QU_addGroup_106 : decode M_QU_addGroup.2.1 106 = .ok (.getfield 24, 3) := by decide +kernel
theorem d_QU_addGroup_109 : decode M_QU_addGroup.2.1 109 = .ok (.iload 7, 2) := by decide +kernel
theorem d_QU_addGroup_111 : decode M_QU_addGroup.2.1 111 = .ok (.iaload, 1) := by decide +kernel
theorem d_QU_addGroup_112 : decode M_QU_addGroup.2.1 112 = .ok (.iload 6, 2) := by decide +kernel
theorem d_QU_addGroup_114 : decode M_QU_addGroup.2.1 114 = .ok (.ior, 1) := by decide +kernel
theorem d_QU_addGroup_115 : decode M_QU_addGroup.2.1 115 = .ok (.iastore, 1) := by decide +kernel
theorem d_QU_addGroup_116 : decode M_QU_addGroup.2.1 116 = .ok (.iinc 7 1, 3) := by decide +kernel
theorem d_QU_addGroup_119 : decode M_QU_addGroup.2.1 119 = .ok (.goto (-37), 3) := by decide +kernel
theorem d_QU_addGroup_122 : decode M_QU_addGroup.2.1 122 = .ok (.iinc 5 (-1), 3) := by decide +kernel
theorem d_QU_addGroup_125 : decode M_QU_addGroup.2.1 125 = .ok (.goto (-63), 3) := by decide +kernel
theorem d_QU_addGroup_128 : decode M_QU_addGroup.2.1 128 = .ok (.aload_n 0, 1) := by decide +kernel
theorem d_QU_addGroup_129 : decode M_QU_addGroup.2.1 129 = .ok (.dup, 1) := by decide +kernel
theorem d_QU_addGroup_130 : decode M_QU_addGroup.2.1 130 = .ok (.getfield 41, 3) := by decide +kernel
theorem d_QU_addGroup_133 : decode M_QU_addGroup.2.1 133 = .ok (.iload_n 3, 1) := by decide +kernel
theorem d_QU_addGroup_134 : decode M_QU_addGroup.2.1 134 = .ok (.imul, 1) := by decide +kernel
theorem d_QU_addGroup_135 : decode M_QU_addGroup.2.1 135 = .ok (.putfield 41, 3) := by decide +kernel
theorem d_QU_addGroup_138 : decode M_QU_addGroup.2.1 138 = .ok (.iconst 1, 1) := by decide +kernel
theorem d_QU_addGroup_139 : decode M_QU_addGroup.2.1 139 = .ok (.ireturn, 1) := by decide +kernel
theorem k_QU_addGroup : x_kV M_QU_addGroup "QuestionReader$Question" 2 := ⟨⟨by decide, Or.inl ⟨w_673, rfl⟩⟩, w_671, w_672, ⟨by decide, by decide⟩, by decide +kernel⟩
def M_QG_itemType : x_M := (⟨"QuestionReader$QuestionGrammar", "itemType", "(LQuestionReader$Kind;)I"⟩, prog_11_method_15_code, 1, some (.int), [])
theorem d_QG_itemType_0 : decode M_QG_itemType.2.1 0 = .ok (.aload_n 0, 1) := by decide +kernel
theorem d_QG_itemType_1 : decode M_QG_itemType.2.1 1 = .ok (.getstatic 284, 3) := by decide +kernel
theorem d_QG_itemType_4 : decode M_QG_itemType.2.1 4 = .ok (.if_acmp .ne 5, 3) := by decide +kernel
theorem d_QG_itemType_7 : decode M_QG_itemType.2.1 7 = .ok (.iconst 1, 1) := by decide +kernel
theorem d_QG_itemType_8 : decode M_QG_itemType.2.1 8 = .ok (.ireturn, 1) := by decide +kernel
theorem d_QG_itemType_9 : decode M_QG_itemType.2.1 9 = .ok (.aload_n 0, 1) := by decide +kernel
theorem d_QG_itemType_10 : decode M_QG_itemType.2.1 10 = .ok (.getstatic 287, 3) := by decide +kernel
theorem d_QG_itemType_13 : decode M_QG_itemType.2.1 13 = .ok (.if_acmp .ne 5, 3) := by decide +kernel
theorem d_QG_itemType_16 : decode M_QG_itemType.2.1 16 = .ok (.iconst 2, 1) := by decide +kernel
theorem d_QG_itemType_17 : decode M_QG_itemType.2.1 17 = .ok (.ireturn, 1) := by decide +kernel
theorem d_QG_itemType_18 : decode M_QG_itemType.2.1 18 = .ok (.aload_n 0, 1) := by decide +kernel
theorem d_QG_itemType_19 : decode M_QG_itemType.2.1 19 = .ok (.getstatic 290, 3) := by decide +kernel
theorem d_QG_itemType_22 : decode M_QG_itemType.2.1 22 = .ok (.if_acmp .ne 5, 3) := by decide +kernel
theorem d_QG_itemType_25 : decode M_QG_itemType.2.1 25 = .ok (.iconst 3, 1) := by decide +kernel
theorem d_QG_itemType_26 : decode M_QG_itemType.2.1 26 = .ok (.ireturn, 1) := by decide +kernel
theorem d_QG_itemType_27 : decode M_QG_itemType.2.1 27 = .ok (.aload_n 0, 1) := by decide +kernel
theorem d_QG_itemType_28 : decode M_QG_itemType.2.1 28 = .ok (.getstatic 293, 3) := by decide +kernel
theorem d_QG_itemType_31 : decode M_QG_itemType.2.1 31 = .ok (.if_acmp .ne 5, 3) := by decide +kernel
theorem d_QG_itemType_34 : decode M_QG_itemType.2.1 34 = .ok (.iconst 4, 1) := by decide +kernel
theorem d_QG_itemType_35 : decode M_QG_itemType.2.1 35 = .ok (.ireturn, 1) := by decide +kernel
theorem d_QG_itemType_36 : decode M_QG_itemType.2.1 36 = .ok (.aload_n 0, 1) := by decide +kernel
theorem d_QG_itemType_37 : decode M_QG_itemType.2.1 37 = .ok (.getstatic 296, 3) := by decide +kernel
theorem d_QG_itemType_40 : decode M_QG_itemType.2.1 40 = .ok (.if_acmp .ne 7, 3) := by decide +kernel
theorem d_QG_itemType_43 : decode M_QG_itemType.2.1 43 = .ok (.iconst 5, 1) := by decide +kernel
theorem d_QG_itemType_44 : decode M_QG_itemType.2.1 44 = .ok (.goto 4, 3) := by decide +kernel
theorem d_QG_itemType_47 : decode M_QG_itemType.2.1 47 = .ok (.iconst 0, 1) := by decide +kernel
theorem d_QG_itemType_48 : decode M_QG_itemType.2.1 48 = .ok (.ireturn, 1) := by decide +kernel
theorem k_QG_itemType : x_kS M_QG_itemType 1 := ⟨⟨by decide, Or.inl ⟨w_458, rfl⟩⟩, w_457, w_10, ⟨by decide, by decide⟩, by decide +kernel⟩
def M_QG_readSummed : x_M := (⟨"QuestionReader$QuestionGrammar", "readSummed", "(I)I"⟩, prog_11_method_5_code, 2, some (.int), [])
theorem d_QG_readSummed_0 : decode M_QG_readSummed.2.1 0 = .ok (.iload_n 1, 1) := by decide +kernel
theorem d_QG_readSummed_1 : decode M_QG_readSummed.2.1 1 = .ok (.iconst 4, 1) := by decide +kernel
theorem d_QG_readSummed_2 : decode M_QG_readSummed.2.1 2 = .ok (.if_icmp .ne 22, 3) := by decide +kernel
theorem d_QG_readSummed_5 : decode M_QG_readSummed.2.1 5 = .ok (.aload_n 0, 1) := by decide +kernel
theorem d_QG_readSummed_6 : decode M_QG_readSummed.2.1 6 = .ok (.getfield 21, 3) := by decide +kernel
theorem d_QG_readSummed_9 : decode M_QG_readSummed.2.1 9 = .ok (.getstatic 127, 3) := by decide +kernel
theorem d_QG_readSummed_12 : decode M_QG_readSummed.2.1 12 = .ok (.invokevirtual 74, 3) := by decide +kernel
theorem d_QG_readSummed_15 : decode M_QG_readSummed.2.1 15 = .ok (.ifCond .eq 7, 3) := by decide +kernel
theorem d_QG_readSummed_18 : decode M_QG_readSummed.2.1 18 = .ok (.iconst 0, 1) := by decide +kernel
theorem d_QG_readSummed_19 : decode M_QG_readSummed.2.1 19 = .ok (.goto 4, 3) := by decide +kernel
theorem d_QG_readSummed_22 : decode M_QG_readSummed.2.1 22 = .ok (.iconst (-1), 1) := by decide +kernel
theorem d_QG_readSummed_23 : decode M_QG_readSummed.2.1 23 = .ok (.ireturn, 1) := by decide +kernel
theorem d_QG_readSummed_24 : decode M_QG_readSummed.2.1 24 = .ok (.aload_n 0, 1) := by decide +kernel
theorem d_QG_readSummed_25 : decode M_QG_readSummed.2.1 25 = .ok (.getfield 35, 3) := by decide +kernel
theorem d_QG_readSummed_28 : decode M_QG_readSummed.2.1 28 = .ok (.bipush 40, 2) := by decide +kernel
theorem d_QG_readSummed_30 : decode M_QG_readSummed.2.1 30 = .ok (.aload_n 0, 1) := by decide +kernel
theorem d_QG_readSummed_31 : decode M_QG_readSummed.2.1 31 = .ok (.getfield 25, 3) := by decide +kernel
theorem d_QG_readSummed_34 : decode M_QG_readSummed.2.1 34 = .ok (.getfield 132, 3) := by decide +kernel
theorem d_QG_readSummed_37 : decode M_QG_readSummed.2.1 37 = .ok (.aload_n 0, 1) := by decide +kernel
theorem d_QG_readSummed_38 : decode M_QG_readSummed.2.1 38 = .ok (.getfield 21, 3) := by decide +kernel
theorem d_QG_readSummed_41 : decode M_QG_readSummed.2.1 41 = .ok (.invokevirtual 135, 3) := by decide +kernel
theorem d_QG_readSummed_44 : decode M_QG_readSummed.2.1 44 = .ok (.ireturn, 1) := by decide +kernel
theorem k_QG_readSummed : x_kV M_QG_readSummed "QuestionReader$QuestionGrammar" 1 := ⟨⟨by decide, Or.inl ⟨w_509, rfl⟩⟩, w_508, ws_10, ⟨by decide, by decide⟩, by decide +kernel⟩
def M_QU_addItem : x_M := (⟨"QuestionReader$Question", "addItem", "(III)V"⟩, prog_10_method_5_code, 4, none, [])
theorem d_QU_addItem_0 : decode M_QU_addItem.2.1 0 = .ok (.aload_n 0, 1) := by decide +kernel
theorem d_QU_addItem_1 : decode M_QU_addItem.2.1 1 = .ok (.getfield 34, 3) := by decide +kernel
theorem d_QU_addItem_4 : decode M_QU_addItem.2.1 4 = .ok (.bipush 24, 2) := by decide +kernel
theorem d_QU_addItem_6 : decode M_QU_addItem.2.1 6 = .ok (.if_icmp .ge 43, 3) := by decide +kernel
theorem d_QU_addItem_9 : decode M_QU_addItem.2.1 9 = .ok (.aload_n 0, 1) := by decide +kernel
theorem d_QU_addItem_10 : decode M_QU_addItem.2.1 10 = .ok (.getfield 11, 3) := by decide +kernel
theorem d_QU_addItem_13 : decode M_QU_addItem.2.1 13 = .ok (.aload_n 0, 1) := by decide +kernel
theorem d_QU_addItem_14 : decode M_QU_addItem.2.1 14 = .ok (.getfield 34, 3) := by decide +kernel
theorem d_QU_addItem_17 : decode M_QU_addItem.2.1 17 = .ok (.iload_n 1, 1) := by decide +kernel
theorem d_QU_addItem_18 : decode M_QU_addItem.2.1 18 = .ok (.iastore, 1) := by decide +kernel
theorem d_QU_addItem_19 : decode M_QU_addItem.2.1 19 = .ok (.aload_n 0, 1) := by decide +kernel
theorem d_QU_addItem_20 : decode M_QU_addItem.2.1 20 = .ok (.getfield 15, 3) := by decide +kernel
theorem d_QU_addItem_23 : decode M_QU_addItem.2.1 23 = .ok (.aload_n 0, 1) := by decide +kernel
theorem d_QU_addItem_24 : decode M_QU_addItem.2.1 24 = .ok (.getfield 34, 3) := by decide +kernel
theorem d_QU_addItem_27 : decode M_QU_addItem.2.1 27 = .ok (.iload_n 2, 1) := by decide +kernel
theorem d_QU_addItem_28 : decode M_QU_addItem.2.1 28 = .ok (.iastore, 1) := by decide +kernel
theorem d_QU_addItem_29 : decode M_QU_addItem.2.1 29 = .ok (.aload_n 0, 1) := by decide +kernel
theorem d_QU_addItem_30 : decode M_QU_addItem.2.1 30 = .ok (.getfield 18, 3) := by decide +kernel
theorem d_QU_addItem_33 : decode M_QU_addItem.2.1 33 = .ok (.aload_n 0, 1) := by decide +kernel
theorem d_QU_addItem_34 : decode M_QU_addItem.2.1 34 = .ok (.getfield 34, 3) := by decide +kernel
theorem d_QU_addItem_37 : decode M_QU_addItem.2.1 37 = .ok (.iload_n 3, 1) := by decide +kernel
theorem d_QU_addItem_38 : decode M_QU_addItem.2.1 38 = .ok (.iastore, 1) := by decide +kernel
theorem d_QU_addItem_39 : decode M_QU_addItem.2.1 39 = .ok (.aload_n 0, 1) := by decide +kernel
theorem d_QU_addItem_40 : decode M_QU_addItem.2.1 40 = .ok (.dup, 1) := by decide +kernel
theorem d_QU_addItem_41 : decode M_QU_addItem.2.1 41 = .ok (.getfield 34, 3) := by decide +kernel
theorem d_QU_addItem_44 : decode M_QU_addItem.2.1 44 = .ok (.iconst 1, 1) := by decide +kernel
theorem d_QU_addItem_45 : decode M_QU_addItem.2.1 45 = .ok (.iadd, 1) := by decide +kernel
theorem d_QU_addItem_46 : decode M_QU_addItem.2.1 46 = .ok (.putfield 34, 3) := by decide +kernel
theorem d_QU_addItem_49 : decode M_QU_addItem.2.1 49 = .ok (.return_, 1) := by decide +kernel
theorem k_QU_addItem : x_kV M_QU_addItem "QuestionReader$Question" 3 := ⟨⟨by decide, Or.inl ⟨w_518, rfl⟩⟩, w_516, w_517, ⟨by decide, by decide⟩, by decide +kernel⟩
def M_CN_join : x_M := (⟨"QuestionReader$Condition", "join", "(ZII)I"⟩, prog_5_method_15_code, 5, some (.int), [])
theorem d_CN_join_0 : decode M_CN_join.2.1 0 = .ok (.iload_n 2, 1) := by decide +kernel
theorem d_CN_join_1 : decode M_CN_join.2.1 1 = .ok (.iconst (-1), 1) := by decide +kernel
theorem d_CN_join_2 : decode M_CN_join.2.1 2 = .ok (.if_icmp .eq 12, 3) := by decide +kernel
theorem d_CN_join_5 : decode M_CN_join.2.1 5 = .ok (.aload_n 0, 1) := by decide +kernel
theorem d_CN_join_6 : decode M_CN_join.2.1 6 = .ok (.getfield 48, 3) := by decide +kernel
theorem d_CN_join_9 : decode M_CN_join.2.1 9 = .ok (.bipush 59, 2) := by decide +kernel
theorem d_CN_join_11 : decode M_CN_join.2.1 11 = .ok (.if_icmp .lt 5, 3) := by decide +kernel
theorem d_CN_join_14 : decode M_CN_join.2.1 14 = .ok (.iload_n 3, 1) := by decide +kernel
theorem d_CN_join_15 : decode M_CN_join.2.1 15 = .ok (.ireturn, 1) := by decide +kernel
theorem d_CN_join_16 : decode M_CN_join.2.1 16 = .ok (.bipush 60, 2) := by decide +kernel
theorem d_CN_join_18 : decode M_CN_join.2.1 18 = .ok (.aload_n 0, 1) := by decide +kernel
theorem d_CN_join_19 : decode M_CN_join.2.1 19 = .ok (.getfield 48, 3) := by decide +kernel
theorem d_CN_join_22 : decode M_CN_join.2.1 22 = .ok (.iadd, 1) := by decide +kernel
theorem d_CN_join_23 : decode M_CN_join.2.1 23 = .ok (.istore 4, 2) := by decide +kernel
theorem d_CN_join_25 : decode M_CN_join.2.1 25 = .ok (.aload_n 0, 1) := by decide +kernel
theorem d_CN_join_26 : decode M_CN_join.2.1 26 = .ok (.getfield 17, 3) := by decide +kernel
theorem d_CN_join_29 : decode M_CN_join.2.1 29 = .ok (.aload_n 0, 1) := by decide +kernel
theorem d_CN_join_30 : decode M_CN_join.2.1 30 = .ok (.getfield 48, 3) := by decide +kernel
theorem d_CN_join_33 : decode M_CN_join.2.1 33 = .ok (.iload_n 2, 1) := by decide +kernel
theorem d_CN_join_34 : decode M_CN_join.2.1 34 = .ok (.iastore, 1) := by decide +kernel
theorem d_CN_join_35 : decode M_CN_join.2.1 35 = .ok (.aload_n 0, 1) := by decide +kernel
theorem d_CN_join_36 : decode M_CN_join.2.1 36 = .ok (.getfield 21, 3) := by decide +kernel
theorem d_CN_join_39 : decode M_CN_join.2.1 39 = .ok (.aload_n 0, 1) := by decide +kernel
theorem d_CN_join_40 : decode M_CN_join.2.1 40 = .ok (.getfield 48, 3) := by decide +kernel
theorem d_CN_join_43 : decode M_CN_join.2.1 43 = .ok (.iload_n 3, 1) := by decide +kernel
theorem d_CN_join_44 : decode M_CN_join.2.1 44 = .ok (.iastore, 1) := by decide +kernel
theorem d_CN_join_45 : decode M_CN_join.2.1 45 = .ok (.aload_n 0, 1) := by decide +kernel
theorem d_CN_join_46 : decode M_CN_join.2.1 46 = .ok (.getfield 24, 3) := by decide +kernel
theorem d_CN_join_49 : decode M_CN_join.2.1 49 = .ok (.aload_n 0, 1) := by decide +kernel
theorem d_CN_join_50 : decode M_CN_join.2.1 50 = .ok (.getfield 48, 3) := by decide +kernel
theorem d_CN_join_53 : decode M_CN_join.2.1 53 = .ok (.iload_n 1, 1) := by decide +kernel
theorem d_CN_join_54 : decode M_CN_join.2.1 54 = .ok (.bastore, 1) := by decide +kernel
theorem d_CN_join_55 : decode M_CN_join.2.1 55 = .ok (.aload_n 0, 1) := by decide +kernel
theorem d_CN_join_56 : decode M_CN_join.2.1 56 = .ok (.getfield 28, 3) := by decide +kernel
theorem d_CN_join_59 : decode M_CN_join.2.1 59 = .ok (.iload 4, 2) := by decide +kernel
theorem d_CN_join_61 : decode M_CN_join.2.1 61 = .ok (.iconst 0, 1) := by decide +kernel
theorem d_CN_join_62 : decode M_CN_join.2.1 62 = .ok (.bastore, 1) := by decide +kernel
theorem d_CN_join_63 : decode M_CN_join.2.1 63 = .ok (.aload_n 0, 1) := by decide +kernel
theorem d_CN_join_64 : decode M_CN_join.2.1 64 = .ok (.dup, 1) := by decide +kernel
theorem d_CN_join_65 : decode M_CN_join.2.1 65 = .ok (.getfield 48, 3) := by decide +kernel
theorem d_CN_join_68 : decode M_CN_join.2.1 68 = .ok (.iconst 1, 1) := by decide +kernel
theorem d_CN_join_69 : decode M_CN_join.2.1 69 = .ok (.iadd, 1) := by decide +kernel
theorem d_CN_join_70 : decode M_CN_join.2.1 70 = .ok (.putfield 48, 3) := by decide +kernel
theorem d_CN_join_73 : decode M_CN_join.2.1 73 = .ok (.iload 4, 2) := by decide +kernel
theorem d_CN_join_75 : decode M_CN_join.2.1 75 = .ok (.ireturn, 1) := by decide +kernel
theorem k_CN_join : x_kV M_CN_join "QuestionReader$Condition" 3 := ⟨⟨by decide, Or.inl ⟨w_622, rfl⟩⟩, w_621, ws_17, ⟨by decide, by decide⟩, by decide +kernel⟩
def M_CN_attach : x_M := (⟨"QuestionReader$Condition", "attach", "(I)V"⟩, prog_5_method_13_code, 2, none, [])
theorem d_CN_attach_0 : decode M_CN_attach.2.1 0 = .ok (.aload_n 0, 1) := by decide +kernel
theorem d_CN_attach_1 : decode M_CN_attach.2.1 1 = .ok (.getfield 40, 3) := by decide +kernel
theorem d_CN_attach_4 : decode M_CN_attach.2.1 4 = .ok (.aload_n 0, 1) := by decide +kernel
theorem d_CN_attach_5 : decode M_CN_attach.2.1 5 = .ok (.getfield 51, 3) := by decide +kernel
theorem d_CN_attach_8 : decode M_CN_attach.2.1 8 = .ok (.baload, 1) := by decide +kernel
theorem d_CN_attach_9 : decode M_CN_attach.2.1 9 = .ok (.ifCond .eq 33, 3) := by decide +kernel
theorem d_CN_attach_12 : decode M_CN_attach.2.1 12 = .ok (.aload_n 0, 1) := by decide +kernel
theorem d_CN_attach_13 : decode M_CN_attach.2.1 13 = .ok (.getfield 28, 3) := by decide +kernel
theorem d_CN_attach_16 : decode M_CN_attach.2.1 16 = .ok (.iload_n 1, 1) := by decide +kernel
theorem d_CN_attach_17 : decode M_CN_attach.2.1 17 = .ok (.aload_n 0, 1) := by decide +kernel
theorem d_CN_attach_18 : decode M_CN_attach.2.1 18 = .ok (.getfield 28, 3) := by decide +kernel
theorem d_CN_attach_21 : decode M_CN_attach.2.1 21 = .ok (.iload_n 1, 1) := by decide +kernel
theorem d_CN_attach_22 : decode M_CN_attach.2.1 22 = .ok (.baload, 1) := by decide +kernel
theorem d_CN_attach_23 : decode M_CN_attach.2.1 23 = .ok (.ifCond .ne 7, 3) := by decide +kernel
theorem d_CN_attach_26 : decode M_CN_attach.2.1 26 = .ok (.iconst 1, 1) := by decide +kernel
theorem d_CN_attach_27 : decode M_CN_attach.2.1 27 = .ok (.goto 4, 3) := by decide +kernel
theorem d_CN_attach_30 : decode M_CN_attach.2.1 30 = .ok (.iconst 0, 1) := by decide +kernel
theorem d_CN_attach_31 : decode M_CN_attach.2.1 31 = .ok (.bastore, 1) := by decide +kernel
theorem d_CN_attach_32 : decode M_CN_attach.2.1 32 = .ok (.aload_n 0, 1) := by decide +kernel
theorem d_CN_attach_33 : decode M_CN_attach.2.1 33 = .ok (.getfield 40, 3) := by decide +kernel
theorem d_CN_attach_36 : decode M_CN_attach.2.1 36 = .ok (.aload_n 0, 1) := by decide +kernel
theorem d_CN_attach_37 : decode M_CN_attach.2.1 37 = .ok (.getfield 51, 3) := by decide +kernel
theorem d_CN_attach_40 : decode M_CN_attach.2.1 40 = .ok (.iconst 0, 1) := by decide +kernel
theorem d_CN_attach_41 : decode M_CN_attach.2.1 41 = .ok (.bastore, 1) := by decide +kernel
theorem d_CN_attach_42 : decode M_CN_attach.2.1 42 = .ok (.aload_n 0, 1) := by decide +kernel
theorem d_CN_attach_43 : decode M_CN_attach.2.1 43 = .ok (.getfield 37, 3) := by decide +kernel
theorem d_CN_attach_46 : decode M_CN_attach.2.1 46 = .ok (.aload_n 0, 1) := by decide +kernel
theorem d_CN_attach_47 : decode M_CN_attach.2.1 47 = .ok (.getfield 51, 3) := by decide +kernel
theorem d_CN_attach_50 : decode M_CN_attach.2.1 50 = .ok (.aload_n 0, 1) := by decide +kernel
theorem d_CN_attach_51 : decode M_CN_attach.2.1 51 = .ok (.iconst 1, 1) := by decide +kernel
theorem d_CN_attach_52 : decode M_CN_attach.2.1 52 = .ok (.aload_n 0, 1) := by decide +kernel
theorem d_CN_attach_53 : decode M_CN_attach.2.1 53 = .ok (.getfield 37, 3) := by decide +kernel
theorem d_CN_attach_56 : decode M_CN_attach.2.1 56 = .ok (.aload_n 0, 1) := by decide +kernel
theorem d_CN_attach_57 : decode M_CN_attach.2.1 57 = .ok (.getfield 51, 3) := by decide +kernel
theorem d_CN_attach_60 : decode M_CN_attach.2.1 60 = .ok (.iaload, 1) := by decide +kernel
theorem d_CN_attach_61 : decode M_CN_attach.2.1 61 = .ok (.iload_n 1, 1) := by decide +kernel
theorem d_CN_attach_62 : decode M_CN_attach.2.1 62 = .ok (.invokevirtual 78, 3) := by decide +kernel
theorem d_CN_attach_65 : decode M_CN_attach.2.1 65 = .ok (.iastore, 1) := by decide +kernel
theorem d_CN_attach_66 : decode M_CN_attach.2.1 66 = .ok (.return_, 1) := by decide +kernel
theorem k_CN_attach : x_kV M_CN_attach "QuestionReader$Condition" 1 := ⟨⟨by decide, Or.inl ⟨w_618, rfl⟩⟩, w_617, ws_16, ⟨by decide, by decide⟩, by decide +kernel⟩
def M_CN_addComing : x_M := (⟨"QuestionReader$Condition", "addComing", "()V"⟩, prog_5_method_5_code, 2, none, [])
theorem d_CN_addComing_0 : decode M_CN_addComing.2.1 0 = .ok (.aload_n 0, 1) := by decide +kernel
theorem d_CN_addComing_1 : decode M_CN_addComing.2.1 1 = .ok (.getfield 44, 3) := by decide +kernel
theorem d_CN_addComing_4 : decode M_CN_addComing.2.1 4 = .ok (.istore_n 1, 1) := by decide +kernel
theorem d_CN_addComing_5 : decode M_CN_addComing.2.1 5 = .ok (.aload_n 0, 1) := by decide +kernel
theorem d_CN_addComing_6 : decode M_CN_addComing.2.1 6 = .ok (.getfield 28, 3) := by decide +kernel
theorem d_CN_addComing_9 : decode M_CN_addComing.2.1 9 = .ok (.iload_n 1, 1) := by decide +kernel
theorem d_CN_addComing_10 : decode M_CN_addComing.2.1 10 = .ok (.iconst 0, 1) := by decide +kernel
theorem d_CN_addComing_11 : decode M_CN_addComing.2.1 11 = .ok (.bastore, 1) := by decide +kernel
theorem d_CN_addComing_12 : decode M_CN_addComing.2.1 12 = .ok (.aload_n 0, 1) := by decide +kernel
theorem d_CN_addComing_13 : decode M_CN_addComing.2.1 13 = .ok (.dup, 1) := by decide +kernel
theorem d_CN_addComing_14 : decode M_CN_addComing.2.1 14 = .ok (.getfield 44, 3) := by decide +kernel
theorem d_CN_addComing_17 : decode M_CN_addComing.2.1 17 = .ok (.iconst 1, 1) := by decide +kernel
theorem d_CN_addComing_18 : decode M_CN_addComing.2.1 18 = .ok (.iadd, 1) := by decide +kernel
theorem d_CN_addComing_19 : decode M_CN_addComing.2.1 19 = .ok (.putfield 44, 3) := by decide +kernel
theorem d_CN_addComing_22 : decode M_CN_addComing.2.1 22 = .ok (.aload_n 0, 1) := by decide +kernel
theorem d_CN_addComing_23 : decode M_CN_addComing.2.1 23 = .ok (.iload_n 1, 1) := by decide +kernel
theorem d_CN_addComing_24 : decode M_CN_addComing.2.1 24 = .ok (.invokevirtual 57, 3) := by decide +kernel
theorem d_CN_addComing_27 : decode M_CN_addComing.2.1 27 = .ok (.return_, 1) := by decide +kernel
theorem k_CN_addComing : x_kV M_CN_addComing "QuestionReader$Condition" 0 := ⟨⟨by decide, Or.inl ⟨w_614, rfl⟩⟩, w_612, w_613, ⟨by decide, by decide⟩, by decide +kernel⟩
def M_CN_endLine : x_M := (⟨"QuestionReader$Condition", "endLine", "()I"⟩, prog_5_method_14_code, 1, some (.int), [])
theorem d_CN_endLine_0 : decode M_CN_endLine.2.1 0 = .ok (.aload_n 0, 1) := by decide +kernel
theorem d_CN_endLine_1 : decode M_CN_endLine.2.1 1 = .ok (.iconst 0, 1) := by decide +kernel
theorem d_CN_endLine_2 : decode M_CN_endLine.2.1 2 = .ok (.aload_n 0, 1) := by decide +kernel
theorem d_CN_endLine_3 : decode M_CN_endLine.2.1 3 = .ok (.getfield 34, 3) := by decide +kernel
theorem d_CN_endLine_6 : decode M_CN_endLine.2.1 6 = .ok (.aload_n 0, 1) := by decide +kernel
theorem d_CN_endLine_7 : decode M_CN_endLine.2.1 7 = .ok (.getfield 51, 3) := by decide +kernel
theorem d_CN_endLine_10 : decode M_CN_endLine.2.1 10 = .ok (.iaload, 1) := by decide +kernel
theorem d_CN_endLine_11 : decode M_CN_endLine.2.1 11 = .ok (.aload_n 0, 1) := by decide +kernel
theorem d_CN_endLine_12 : decode M_CN_endLine.2.1 12 = .ok (.getfield 37, 3) := by decide +kernel
theorem d_CN_endLine_15 : decode M_CN_endLine.2.1 15 = .ok (.aload_n 0, 1) := by decide +kernel
theorem d_CN_endLine_16 : decode M_CN_endLine.2.1 16 = .ok (.getfield 51, 3) := by decide +kernel
theorem d_CN_endLine_19 : decode M_CN_endLine.2.1 19 = .ok (.iaload, 1) := by decide +kernel
theorem d_CN_endLine_20 : decode M_CN_endLine.2.1 20 = .ok (.invokevirtual 78, 3) := by decide +kernel
theorem d_CN_endLine_23 : decode M_CN_endLine.2.1 23 = .ok (.ireturn, 1) := by decide +kernel
theorem k_CN_endLine : x_kV M_CN_endLine "QuestionReader$Condition" 0 := ⟨⟨by decide, Or.inl ⟨w_634, rfl⟩⟩, w_633, ws_19, ⟨by decide, by decide⟩, by decide +kernel⟩
def M_CN_finish : x_M := (⟨"QuestionReader$Condition", "finish", "()V"⟩, prog_5_method_10_code, 1, none, [])
theorem d_CN_finish_0 : decode M_CN_finish.2.1 0 = .ok (.aload_n 0, 1) := by decide +kernel
theorem d_CN_finish_1 : decode M_CN_finish.2.1 1 = .ok (.invokevirtual 61, 3) := by decide +kernel
theorem d_CN_finish_4 : decode M_CN_finish.2.1 4 = .ok (.pop, 1) := by decide +kernel
theorem d_CN_finish_5 : decode M_CN_finish.2.1 5 = .ok (.return_, 1) := by decide +kernel
theorem k_CN_finish : x_kV M_CN_finish "QuestionReader$Condition" 0 := ⟨⟨by decide, Or.inl ⟨w_644, rfl⟩⟩, w_642, w_643, ⟨by decide, by decide⟩, by decide +kernel⟩
def M_CN_negateNext : x_M := (⟨"QuestionReader$Condition", "negateNext", "()V"⟩, prog_5_method_6_code, 1, none, [])
theorem d_CN_negateNext_0 : decode M_CN_negateNext.2.1 0 = .ok (.aload_n 0, 1) := by decide +kernel
theorem d_CN_negateNext_1 : decode M_CN_negateNext.2.1 1 = .ok (.getfield 40, 3) := by decide +kernel
theorem d_CN_negateNext_4 : decode M_CN_negateNext.2.1 4 = .ok (.aload_n 0, 1) := by decide +kernel
theorem d_CN_negateNext_5 : decode M_CN_negateNext.2.1 5 = .ok (.getfield 51, 3) := by decide +kernel
theorem d_CN_negateNext_8 : decode M_CN_negateNext.2.1 8 = .ok (.aload_n 0, 1) := by decide +kernel
theorem d_CN_negateNext_9 : decode M_CN_negateNext.2.1 9 = .ok (.getfield 40, 3) := by decide +kernel
theorem d_CN_negateNext_12 : decode M_CN_negateNext.2.1 12 = .ok (.aload_n 0, 1) := by decide +kernel
theorem d_CN_negateNext_13 : decode M_CN_negateNext.2.1 13 = .ok (.getfield 51, 3) := by decide +kernel
theorem d_CN_negateNext_16 : decode M_CN_negateNext.2.1 16 = .ok (.baload, 1) := by decide +kernel
theorem d_CN_negateNext_17 : decode M_CN_negateNext.2.1 17 = .ok (.ifCond .ne 7, 3) := by decide +kernel
theorem d_CN_negateNext_20 : decode M_CN_negateNext.2.1 20 = .ok (.iconst 1, 1) := by decide +kernel
theorem d_CN_negateNext_21 : decode M_CN_negateNext.2.1 21 = .ok (.goto 4, 3) := by decide +kernel
theorem d_CN_negateNext_24 : decode M_CN_negateNext.2.1 24 = .ok (.iconst 0, 1) := by decide +kernel
theorem d_CN_negateNext_25 : decode M_CN_negateNext.2.1 25 = .ok (.bastore, 1) := by decide +kernel
theorem d_CN_negateNext_26 : decode M_CN_negateNext.2.1 26 = .ok (.return_, 1) := by decide +kernel
theorem k_CN_negateNext : x_kV M_CN_negateNext "QuestionReader$Condition" 0 := ⟨⟨by decide, Or.inl ⟨w_533, rfl⟩⟩, w_531, w_532, ⟨by decide, by decide⟩, by decide +kernel⟩
def M_CN_clearLine : x_M := (⟨"QuestionReader$Condition", "clearLine", "()V"⟩, prog_5_method_12_code, 1, none, [])
theorem d_CN_clearLine_0 : decode M_CN_clearLine.2.1 0 = .ok (.aload_n 0, 1) := by decide +kernel
theorem d_CN_clearLine_1 : decode M_CN_clearLine.2.1 1 = .ok (.getfield 34, 3) := by decide +kernel
theorem d_CN_clearLine_4 : decode M_CN_clearLine.2.1 4 = .ok (.aload_n 0, 1) := by decide +kernel
theorem d_CN_clearLine_5 : decode M_CN_clearLine.2.1 5 = .ok (.getfield 51, 3) := by decide +kernel
theorem d_CN_clearLine_8 : decode M_CN_clearLine.2.1 8 = .ok (.iconst (-1), 1) := by decide +kernel
theorem d_CN_clearLine_9 : decode M_CN_clearLine.2.1 9 = .ok (.iastore, 1) := by decide +kernel
theorem d_CN_clearLine_10 : decode M_CN_clearLine.2.1 10 = .ok (.aload_n 0, 1) := by decide +kernel
theorem d_CN_clearLine_11 : decode M_CN_clearLine.2.1 11 = .ok (.getfield 37, 3) := by decide +kernel
theorem d_CN_clearLine_14 : decode M_CN_clearLine.2.1 14 = .ok (.aload_n 0, 1) := by decide +kernel
theorem d_CN_clearLine_15 : decode M_CN_clearLine.2.1 15 = .ok (.getfield 51, 3) := by decide +kernel
theorem d_CN_clearLine_18 : decode M_CN_clearLine.2.1 18 = .ok (.iconst (-1), 1) := by decide +kernel
theorem d_CN_clearLine_19 : decode M_CN_clearLine.2.1 19 = .ok (.iastore, 1) := by decide +kernel
theorem d_CN_clearLine_20 : decode M_CN_clearLine.2.1 20 = .ok (.aload_n 0, 1) := by decide +kernel
theorem d_CN_clearLine_21 : decode M_CN_clearLine.2.1 21 = .ok (.getfield 40, 3) := by decide +kernel
theorem d_CN_clearLine_24 : decode M_CN_clearLine.2.1 24 = .ok (.aload_n 0, 1) := by decide +kernel
theorem d_CN_clearLine_25 : decode M_CN_clearLine.2.1 25 = .ok (.getfield 51, 3) := by decide +kernel
theorem d_CN_clearLine_28 : decode M_CN_clearLine.2.1 28 = .ok (.iconst 0, 1) := by decide +kernel
theorem d_CN_clearLine_29 : decode M_CN_clearLine.2.1 29 = .ok (.bastore, 1) := by decide +kernel
theorem d_CN_clearLine_30 : decode M_CN_clearLine.2.1 30 = .ok (.return_, 1) := by decide +kernel
theorem k_CN_clearLine : x_kV M_CN_clearLine "QuestionReader$Condition" 0 := ⟨⟨by decide, Or.inl ⟨w_385, rfl⟩⟩, w_384, ws_0, ⟨by decide, by decide⟩, by decide +kernel⟩
def M_CN_openBracket : x_M := (⟨"QuestionReader$Condition", "openBracket", "()Z"⟩, prog_5_method_7_code, 1, some (.boolean), [])
theorem d_CN_openBracket_0 : decode M_CN_openBracket.2.1 0 = .ok (.aload_n 0, 1) := by decide +kernel
theorem d_CN_openBracket_1 : decode M_CN_openBracket.2.1 1 = .ok (.getfield 51, 3) := by decide +kernel
theorem d_CN_openBracket_4 : decode M_CN_openBracket.2.1 4 = .ok (.bipush 40, 2) := by decide +kernel
theorem d_CN_openBracket_6 : decode M_CN_openBracket.2.1 6 = .ok (.if_icmp .lt 5, 3) := by decide +kernel
theorem d_CN_openBracket_9 : decode M_CN_openBracket.2.1 9 = .ok (.iconst 0, 1) := by decide +kernel
theorem d_CN_openBracket_10 : decode M_CN_openBracket.2.1 10 = .ok (.ireturn, 1) := by decide +kernel
theorem d_CN_openBracket_11 : decode M_CN_openBracket.2.1 11 = .ok (.aload_n 0, 1) := by decide +kernel
theorem d_CN_openBracket_12 : decode M_CN_openBracket.2.1 12 = .ok (.dup, 1) := by decide +kernel
theorem d_CN_openBracket_13 : decode M_CN_openBracket.2.1 13 = .ok (.getfield 51, 3) := by decide +kernel
theorem d_CN_openBracket_16 : decode M_CN_openBracket.2.1 16 = .ok (.iconst 1, 1) := by decide +kernel
theorem d_CN_openBracket_17 : decode M_CN_openBracket.2.1 17 = .ok (.iadd, 1) := by decide +kernel
theorem d_CN_openBracket_18 : decode M_CN_openBracket.2.1 18 = .ok (.putfield 51, 3) := by decide +kernel
theorem d_CN_openBracket_21 : decode M_CN_openBracket.2.1 21 = .ok (.aload_n 0, 1) := by decide +kernel
theorem d_CN_openBracket_22 : decode M_CN_openBracket.2.1 22 = .ok (.invokevirtual 54, 3) := by decide +kernel
theorem d_CN_openBracket_25 : decode M_CN_openBracket.2.1 25 = .ok (.iconst 1, 1) := by decide +kernel
theorem d_CN_openBracket_26 : decode M_CN_openBracket.2.1 26 = .ok (.ireturn, 1) := by decide +kernel
theorem k_CN_openBracket : x_kV M_CN_openBracket "QuestionReader$Condition" 0 := ⟨⟨by decide, Or.inl ⟨w_537, rfl⟩⟩, w_535, w_536, ⟨by decide, by decide⟩, by decide +kernel⟩
def M_CN_startAlternative : x_M := (⟨"QuestionReader$Condition", "startAlternative", "()V"⟩, prog_5_method_9_code, 1, none, [])
theorem d_CN_startAlternative_0 : decode M_CN_startAlternative.2.1 0 = .ok (.aload_n 0, 1) := by decide +kernel
theorem d_CN_startAlternative_1 : decode M_CN_startAlternative.2.1 1 = .ok (.getfield 34, 3) := by decide +kernel
theorem d_CN_startAlternative_4 : decode M_CN_startAlternative.2.1 4 = .ok (.aload_n 0, 1) := by decide +kernel
theorem d_CN_startAlternative_5 : decode M_CN_startAlternative.2.1 5 = .ok (.getfield 51, 3) := by decide +kernel
theorem d_CN_startAlternative_8 : decode M_CN_startAlternative.2.1 8 = .ok (.aload_n 0, 1) := by decide +kernel
theorem d_CN_startAlternative_9 : decode M_CN_startAlternative.2.1 9 = .ok (.invokevirtual 61, 3) := by decide +kernel
theorem d_CN_startAlternative_12 : decode M_CN_startAlternative.2.1 12 = .ok (.iastore, 1) := by decide +kernel
theorem d_CN_startAlternative_13 : decode M_CN_startAlternative.2.1 13 = .ok (.aload_n 0, 1) := by decide +kernel
theorem d_CN_startAlternative_14 : decode M_CN_startAlternative.2.1 14 = .ok (.getfield 37, 3) := by decide +kernel
theorem d_CN_startAlternative_17 : decode M_CN_startAlternative.2.1 17 = .ok (.aload_n 0, 1) := by decide +kernel
theorem d_CN_startAlternative_18 : decode M_CN_startAlternative.2.1 18 = .ok (.getfield 51, 3) := by decide +kernel
theorem d_CN_startAlternative_21 : decode M_CN_startAlternative.2.1 21 = .ok (.iconst (-1), 1) := by decide +kernel
theorem d_CN_startAlternative_22 : decode M_CN_startAlternative.2.1 22 = .ok (.iastore, 1) := by decide +kernel
theorem d_CN_startAlternative_23 : decode M_CN_startAlternative.2.1 23 = .ok (.return_, 1) := by decide +kernel
theorem k_CN_startAlternative : x_kV M_CN_startAlternative "QuestionReader$Condition" 0 := ⟨⟨by decide, Or.inl ⟨w_640, rfl⟩⟩, w_638, w_639, ⟨by decide, by decide⟩, by decide +kernel⟩
def M_CN_closeBracket : x_M := (⟨"QuestionReader$Condition", "closeBracket", "()V"⟩, prog_5_method_8_code, 2, none, [])
theorem d_CN_closeBracket_0 : decode M_CN_closeBracket.2.1 0 = .ok (.aload_n 0, 1) := by decide +kernel
theorem d_CN_closeBracket_1 : decode M_CN_closeBracket.2.1 1 = .ok (.getfield 51, 3) := by decide +kernel
theorem d_CN_closeBracket_4 : decode M_CN_closeBracket.2.1 4 = .ok (.ifCond .le 23, 3) := by decide +kernel
theorem d_CN_closeBracket_7 : decode M_CN_closeBracket.2.1 7 = .ok (.aload_n 0, 1) := by decide +kernel
theorem d_CN_closeBracket_8 : decode M_CN_closeBracket.2.1 8 = .ok (.invokevirtual 61, 3) := by decide +kernel
theorem d_CN_closeBracket_11 : decode M_CN_closeBracket.2.1 11 = .ok (.istore_n 1, 1) := by decide +kernel
theorem d_CN_closeBracket_12 : decode M_CN_closeBracket.2.1 12 = .ok (.aload_n 0, 1) := by decide +kernel
theorem d_CN_closeBracket_13 : decode M_CN_closeBracket.2.1 13 = .ok (.dup, 1) := by decide +kernel
theorem d_CN_closeBracket_14 : decode M_CN_closeBracket.2.1 14 = .ok (.getfield 51, 3) := by decide +kernel
theorem d_CN_closeBracket_17 : decode M_CN_closeBracket.2.1 17 = .ok (.iconst 1, 1) := by decide +kernel
theorem d_CN_closeBracket_18 : decode M_CN_closeBracket.2.1 18 = .ok (.isub, 1) := by decide +kernel
theorem d_CN_closeBracket_19 : decode M_CN_closeBracket.2.1 19 = .ok (.putfield 51, 3) := by decide +kernel
theorem d_CN_closeBracket_22 : decode M_CN_closeBracket.2.1 22 = .ok (.aload_n 0, 1) := by decide +kernel
theorem d_CN_closeBracket_23 : decode M_CN_closeBracket.2.1 23 = .ok (.iload_n 1, 1) := by decide +kernel
theorem d_CN_closeBracket_24 : decode M_CN_closeBracket.2.1 24 = .ok (.invokevirtual 57, 3) := by decide +kernel
theorem d_CN_closeBracket_27 : decode M_CN_closeBracket.2.1 27 = .ok (.return_, 1) := by decide +kernel
theorem k_CN_closeBracket : x_kV M_CN_closeBracket "QuestionReader$Condition" 0 := ⟨⟨by decide, Or.inl ⟨w_630, rfl⟩⟩, w_628, w_629, ⟨by decide, by decide⟩, by decide +kernel⟩
def M_CN_coming : x_M := (⟨"QuestionReader$Condition", "coming", "()LQuestionReader$Comparison;"⟩, prog_5_method_4_code, 1, some (.object "QuestionReader$Comparison"), [])
theorem d_CN_coming_0 : decode M_CN_coming.2.1 0 = .ok (.aload_n 0, 1) := by decide +kernel
theorem d_CN_coming_1 : decode M_CN_coming.2.1 1 = .ok (.getfield 13, 3) := by decide +kernel
theorem d_CN_coming_4 : decode M_CN_coming.2.1 4 = .ok (.aload_n 0, 1) := by decide +kernel
theorem d_CN_coming_5 : decode M_CN_coming.2.1 5 = .ok (.getfield 44, 3) := by decide +kernel
theorem d_CN_coming_8 : decode M_CN_coming.2.1 8 = .ok (.aaload, 1) := by decide +kernel
theorem d_CN_coming_9 : decode M_CN_coming.2.1 9 = .ok (.areturn, 1) := by decide +kernel
theorem k_CN_coming : x_kV M_CN_coming "QuestionReader$Condition" 0 := ⟨⟨by decide, Or.inl ⟨w_549, rfl⟩⟩, w_547, w_548, ⟨by decide, by decide⟩, by decide +kernel⟩
def M_CN_isFull : x_M := (⟨"QuestionReader$Condition", "isFull", "()Z"⟩, prog_5_method_3_code, 1, some (.boolean), [])
theorem d_CN_isFull_0 : decode M_CN_isFull.2.1 0 = .ok (.aload_n 0, 1) := by decide +kernel
theorem d_CN_isFull_1 : decode M_CN_isFull.2.1 1 = .ok (.getfield 44, 3) := by decide +kernel
theorem d_CN_isFull_4 : decode M_CN_isFull.2.1 4 = .ok (.bipush 60, 2) := by decide +kernel
theorem d_CN_isFull_6 : decode M_CN_isFull.2.1 6 = .ok (.if_icmp .lt 7, 3) := by decide +kernel
theorem d_CN_isFull_9 : decode M_CN_isFull.2.1 9 = .ok (.iconst 1, 1) := by decide +kernel
theorem d_CN_isFull_10 : decode M_CN_isFull.2.1 10 = .ok (.goto 4, 3) := by decide +kernel
theorem d_CN_isFull_13 : decode M_CN_isFull.2.1 13 = .ok (.iconst 0, 1) := by decide +kernel
theorem d_CN_isFull_14 : decode M_CN_isFull.2.1 14 = .ok (.ireturn, 1) := by decide +kernel
theorem k_CN_isFull : x_kV M_CN_isFull "QuestionReader$Condition" 0 := ⟨⟨by decide, Or.inl ⟨w_545, rfl⟩⟩, w_543, w_544, ⟨by decide, by decide⟩, by decide +kernel⟩
def M_CP_restart : x_M := (⟨"QuestionReader$Comparison", "restart", "(I)V"⟩, prog_4_method_2_code, 2, none, [])
theorem d_CP_restart_0 : decode M_CP_restart.2.1 0 = .ok (.aload_n 0, 1) := by decide +kernel
theorem d_CP_restart_1 : decode M_CP_restart.2.1 1 = .ok (.iload_n 1, 1) := by decide +kernel
theorem d_CP_restart_2 : decode M_CP_restart.2.1 2 = .ok (.putfield 13, 3) := by decide +kernel
theorem d_CP_restart_5 : decode M_CP_restart.2.1 5 = .ok (.aload_n 0, 1) := by decide +kernel
theorem d_CP_restart_6 : decode M_CP_restart.2.1 6 = .ok (.iconst 0, 1) := by decide +kernel
theorem d_CP_restart_7 : decode M_CP_restart.2.1 7 = .ok (.putfield 17, 3) := by decide +kernel
theorem d_CP_restart_10 : decode M_CP_restart.2.1 10 = .ok (.aload_n 0, 1) := by decide +kernel
theorem d_CP_restart_11 : decode M_CP_restart.2.1 11 = .ok (.iconst 0, 1) := by decide +kernel
theorem d_CP_restart_12 : decode M_CP_restart.2.1 12 = .ok (.putfield 21, 3) := by decide +kernel
theorem d_CP_restart_15 : decode M_CP_restart.2.1 15 = .ok (.return_, 1) := by decide +kernel
theorem k_CP_restart : x_kV M_CP_restart "QuestionReader$Comparison" 1 := ⟨⟨by decide, Or.inl ⟨w_553, rfl⟩⟩, w_551, w_552, ⟨by decide, by decide⟩, by decide +kernel⟩
def M_CP_becomeRange : x_M := (⟨"QuestionReader$Comparison", "becomeRange", "(II)V"⟩, prog_4_method_3_code, 3, none, [])
theorem d_CP_becomeRange_0 : decode M_CP_becomeRange.2.1 0 = .ok (.aload_n 0, 1) := by decide +kernel
theorem d_CP_becomeRange_1 : decode M_CP_becomeRange.2.1 1 = .ok (.iload_n 1, 1) := by decide +kernel
theorem d_CP_becomeRange_2 : decode M_CP_becomeRange.2.1 2 = .ok (.putfield 24, 3) := by decide +kernel
theorem d_CP_becomeRange_5 : decode M_CP_becomeRange.2.1 5 = .ok (.aload_n 0, 1) := by decide +kernel
theorem d_CP_becomeRange_6 : decode M_CP_becomeRange.2.1 6 = .ok (.iload_n 2, 1) := by decide +kernel
theorem d_CP_becomeRange_7 : decode M_CP_becomeRange.2.1 7 = .ok (.putfield 27, 3) := by decide +kernel
theorem d_CP_becomeRange_10 : decode M_CP_becomeRange.2.1 10 = .ok (.return_, 1) := by decide +kernel
theorem k_CP_becomeRange : x_kV M_CP_becomeRange "QuestionReader$Comparison" 2 := ⟨⟨by decide, Or.inl ⟨w_576, rfl⟩⟩, w_574, w_575, ⟨by decide, by decide⟩, by decide +kernel⟩
def M_CP_addToList : x_M := (⟨"QuestionReader$Comparison", "addToList", "(I)Z"⟩, prog_4_method_5_code, 2, some (.boolean), [])
theorem d_CP_addToList_0 : decode M_CP_addToList.2.1 0 = .ok (.aload_n 0, 1) := by decide +kernel
theorem d_CP_addToList_1 : decode M_CP_addToList.2.1 1 = .ok (.getfield 21, 3) := by decide +kernel
theorem d_CP_addToList_4 : decode M_CP_addToList.2.1 4 = .ok (.bipush 40, 2) := by decide +kernel
theorem d_CP_addToList_6 : decode M_CP_addToList.2.1 6 = .ok (.if_icmp .lt 5, 3) := by decide +kernel
theorem d_CP_addToList_9 : decode M_CP_addToList.2.1 9 = .ok (.iconst 0, 1) := by decide +kernel
theorem d_CP_addToList_10 : decode M_CP_addToList.2.1 10 = .ok (.ireturn, 1) := by decide +kernel
theorem d_CP_addToList_11 : decode M_CP_addToList.2.1 11 = .ok (.aload_n 0, 1) := by decide +kernel
theorem d_CP_addToList_12 : decode M_CP_addToList.2.1 12 = .ok (.getfield 9, 3) := by decide +kernel
theorem d_CP_addToList_15 : decode M_CP_addToList.2.1 15 = .ok (.aload_n 0, 1) := by decide +kernel
theorem d_CP_addToList_16 : decode M_CP_addToList.2.1 16 = .ok (.getfield 21, 3) := by decide +kernel
theorem d_CP_addToList_19 : decode M_CP_addToList.2.1 19 = .ok (.iload_n 1, 1) := by decide +kernel
theorem d_CP_addToList_20 : decode M_CP_addToList.2.1 20 = .ok (.iastore, 1) := by decide +kernel
theorem d_CP_addToList_21 : decode M_CP_addToList.2.1 21 = .ok (.aload_n 0, 1) := by decide +kernel
theorem d_CP_addToList_22 : decode M_CP_addToList.2.1 22 = .ok (.dup, 1) := by decide +kernel
theorem d_CP_addToList_23 : decode M_CP_addToList.2.1 23 = .ok (.getfield 21, 3) := by decide +kernel
theorem d_CP_addToList_26 : decode M_CP_addToList.2.1 26 = .ok (.iconst 1, 1) := by decide +kernel
theorem d_CP_addToList_27 : decode M_CP_addToList.2.1 27 = .ok (.iadd, 1) := by decide +kernel
theorem d_CP_addToList_28 : decode M_CP_addToList.2.1 28 = .ok (.putfield 21, 3) := by decide +kernel
theorem d_CP_addToList_31 : decode M_CP_addToList.2.1 31 = .ok (.iconst 1, 1) := by decide +kernel
theorem d_CP_addToList_32 : decode M_CP_addToList.2.1 32 = .ok (.ireturn, 1) := by decide +kernel
theorem k_CP_addToList : x_kV M_CP_addToList "QuestionReader$Comparison" 1 := ⟨⟨by decide, Or.inl ⟨w_564, rfl⟩⟩, w_562, w_563, ⟨by decide, by decide⟩, by decide +kernel⟩
def B_DM_fits_41 (p : Nat)  (s0 : Int32) (m : x_m) : Option (Int32 × x_m) := (if x_b1 s0 = true then some (s0, m) else none)
theorem b_DM_fits_41 {G : x_G} {ex : Bool} {r : Int32 × x_m} {p : Nat} (hp : x_DM p)  {s0 : Int32} {m : x_m} (h : B_DM_fits_41 p s0 m = some r) : x_W G M_DM_fits (x_rd 1) (x_Q G (x_rd 1) ex (x_pi r)) ex x_np (x_hp m) 0 0 [] [.int s0] 41 := by
  unfold B_DM_fits_41 at h
  obtain ⟨g_41, h⟩ := x_gd h
  cases h
  exact x_ri d_DM_fits_41 rfl (x_b1_ok g_41).1
def B_DM_fits_40 (p : Nat)   (m : x_m) : Option (Int32 × x_m) := B_DM_fits_41 p 0 m
theorem b_DM_fits_40 {G : x_G} {ex : Bool} {r : Int32 × x_m} {p : Nat} (hp : x_DM p)   {m : x_m} (h : B_DM_fits_40 p m = some r) : x_W G M_DM_fits (x_rd 1) (x_Q G (x_rd 1) ex (x_pi r)) ex x_np (x_hp m) 0 0 [] [] 40 := by
  unfold B_DM_fits_40 at h
  refine x_iconst (v := 0) d_DM_fits_40 (by decide) ?_
  exact b_DM_fits_41 hp h
def B_DM_fits_2 (p : Nat)  : Nat → Int32 → Int32 → x_m → Option (Int32 × x_m)
  | 0, _, _, _ => none
  | f_ + 1, l1, l2, m => (if (m.1 p 0) ≤ l2 then some (1, m) else ((F_DM_firstWithSame p l2 l1 m).bind fun r13 => (if l1 ≤ r13.1 then (B_DM_fits_2 p f_) l1 (l2 + 1) r13.2 else (if l2 ≤ 0 then B_DM_fits_40 p r13.2 else ((F_DM_agreeAbove p l2 r13.1 l1 r13.2).bind fun r30 => (if r30.1 = 0 then B_DM_fits_40 p r30.2 else B_DM_fits_41 p 1 r30.2))))))
theorem b_DM_fits_2 {G : x_G} {ex : Bool} {r : Int32 × x_m} {p : Nat} (hp : x_DM p)  : ∀ (f_ : Nat) (l1 : Int32) (l2 : Int32) (m : x_m), B_DM_fits_2 p f_ l1 l2 m = some r → x_W G M_DM_fits (x_rd 1) (x_Q G (x_rd 1) ex (x_pi r)) ex x_np (x_hp m) 0 0 [(0, .ref p), (1, .int l1), (2, .int l2)] [] 2 := by
  intro f_
  induction f_ with
  | zero => intro l1 l2 m h; exact nomatch h
  | succ f_ ih =>
    intro l1 l2 m h
    rw [B_DM_fits_2] at h
    have hK2 := ih
    refine x_iload_n d_DM_fits_2 rfl rfl ?_
    refine x_aload_n d_DM_fits_3 rfl rfl ?_
    refine x_gI d_DM_fits_4 (f_DM_26 rfl) (sh_DM hp) (hp_DM hp) rfl ?_
    refine x_icmp_ge (tgt := 48) d_DM_fits_7 (by decide) (fun c_ => ?_) (fun c_ => ?_)
    · replace h := x_it h c_
      refine x_iconst (v := 1) d_DM_fits_48 (by decide) ?_
      cases h
      exact x_ri d_DM_fits_49 rfl rfl
    · replace h := x_ie h c_
      refine x_aload_n d_DM_fits_10 rfl rfl ?_
      refine x_iload_n d_DM_fits_11 rfl rfl ?_
      refine x_iload_n d_DM_fits_12 rfl rfl ?_
      obtain ⟨r13, e13, h⟩ := x_bd h
      refine x_cVi (M2 := M_DM_firstWithSame) (As := [.int l2, .int l1]) (st := []) d_DM_fits_13 w_765 k_DM_firstWithSame (c_DM_firstWithSame hp e13) rfl (sh_DM hp) (hp_DM hp) rfl ⟨Nat.le_of_ble_eq_true rfl, Nat.le_of_ble_eq_true rfl⟩ (Nat.le_of_ble_eq_true rfl) (Nat.le_of_ble_eq_true rfl) rfl ?_
      refine x_istore_n (lv2 := [(0, .ref p), (1, .int l1), (2, .int l2), (3, .int r13.1)]) d_DM_fits_16 rfl (by decide) rfl ?_
      refine x_iload_n d_DM_fits_17 rfl rfl ?_
      refine x_iload_n d_DM_fits_18 rfl rfl ?_
      refine x_icmp_ge (tgt := 42) d_DM_fits_19 (by decide) (fun c_ => ?_) (fun c_ => ?_)
      · replace h := x_it h c_
        refine x_iinc (v := l2 + 1) (lv2 := [(0, .ref p), (1, .int l1), (2, .int (l2 + 1)), (3, .int r13.1)]) d_DM_fits_42 rfl rfl (by decide) rfl ?_
        refine x_goto (tgt := 2) d_DM_fits_45 (by decide) ?_
        refine x_sbk [0, 1, 2] (lv2 := [(0, .ref p), (1, .int l1), (2, .int (l2 + 1))]) rfl ?_; exact hK2 _ _ _ h
      · replace h := x_ie h c_
        refine x_iload_n d_DM_fits_22 rfl rfl ?_
        refine x_if_le (tgt := 40) d_DM_fits_23 (by decide) (fun c_ => ?_) (fun c_ => ?_)
        · replace h := x_it h c_
          refine x_sbk [] (lv2 := []) rfl ?_; exact b_DM_fits_40 hp h
        · replace h := x_ie h c_
          refine x_aload_n d_DM_fits_26 rfl rfl ?_
          refine x_iload_n d_DM_fits_27 rfl rfl ?_
          refine x_iload_n d_DM_fits_28 rfl rfl ?_
          refine x_iload_n d_DM_fits_29 rfl rfl ?_
          obtain ⟨r30, e30, h⟩ := x_bd h
          refine x_cVi (M2 := M_DM_agreeAbove) (As := [.int l2, .int r13.1, .int l1]) (st := []) d_DM_fits_30 w_769 k_DM_agreeAbove (c_DM_agreeAbove hp e30) rfl (sh_DM hp) (hp_DM hp) rfl ⟨Nat.le_of_ble_eq_true rfl, Nat.le_of_ble_eq_true rfl⟩ (Nat.le_of_ble_eq_true rfl) (Nat.le_of_ble_eq_true rfl) rfl ?_
          refine x_if_eq (tgt := 40) d_DM_fits_33 (by decide) (fun c_ => ?_) (fun c_ => ?_)
          · replace h := x_it h c_
            refine x_sbk [] (lv2 := []) rfl ?_; exact b_DM_fits_40 hp h
          · replace h := x_ie h c_
            refine x_iconst (v := 1) d_DM_fits_36 (by decide) ?_
            refine x_goto (tgt := 41) d_DM_fits_37 (by decide) ?_
            refine x_sbk [] (lv2 := []) rfl ?_; exact b_DM_fits_41 hp h
def F_DM_fits (p : Nat) (a1 : Int32) (m : x_m) : Option (Int32 × x_m) := B_DM_fits_2 p x_fu a1 0 m
theorem c_DM_fits {G : x_G} {ex : Bool} {r : Int32 × x_m} {p : Nat} (hp : x_DM p) {a1 : Int32} {m : x_m} (h : F_DM_fits p a1 m = some r) : x_R G M_DM_fits (x_rd 1) ex [.ref p, .int a1] x_np (x_hp m) (x_pi r) := by
  unfold F_DM_fits at h
  show x_W G M_DM_fits (x_rd 1) (x_Q G (x_rd 1) ex (x_pi r)) ex x_np (x_hp m) 0 0 [(0, .ref p), (1, .int a1)] [] 0
  refine x_iconst (v := 0) d_DM_fits_0 (by decide) ?_
  refine x_istore_n (lv2 := [(0, .ref p), (1, .int a1), (2, .int 0)]) d_DM_fits_1 rfl (by decide) rfl ?_
  exact b_DM_fits_2 hp _ _ _ _ h
def B_NM_read_30   (l4 : Int32) (m : x_m) : Option (Int32 × x_m) := some (l4, m)
theorem b_NM_read_30 {G : x_G} {ex : Bool} {r : Int32 × x_m}   {l4 : Int32} {m : x_m} (h : B_NM_read_30 l4 m = some r) : x_W G M_NM_read (x_rd 2) (x_Q G (x_rd 2) ex (x_pi r)) ex x_np (x_hp m) 0 0 [(4, .int l4)] [] 30 := by
  unfold B_NM_read_30 at h
  refine x_iload d_NM_read_30 rfl ?_
  cases h
  exact x_ri d_NM_read_32 rfl rfl
def F_NM_read  (a1 : Int32) (a2 : Int32) (m : x_m) : Option (Int32 × x_m) := ((F_LX_atName m).bind fun r1 => (if r1.1 = 0 then some ((-1), r1.2) else ((F_NM_search a1 a2 r1.2).bind fun r13 => (if r13.1 = ((-1)) then ((F_LX_tellHere 5 r13.2).bind fun r26 => B_NM_read_30 r13.1 r26.2) else B_NM_read_30 r13.1 r13.2))))
theorem c_NM_read {G : x_G} {ex : Bool} {r : Int32 × x_m}  {a1 : Int32} {a2 : Int32} {m : x_m} (h : F_NM_read a1 a2 m = some r) : x_R G M_NM_read (x_rd 2) ex [.ref 5, .int a1, .int a2, .ref 3] x_np (x_hp m) (x_pi r) := by
  unfold F_NM_read at h
  show x_W G M_NM_read (x_rd 2) (x_Q G (x_rd 2) ex (x_pi r)) ex x_np (x_hp m) 0 0 [(0, .ref 5), (1, .int a1), (2, .int a2), (3, .ref 3)] [] 0
  refine x_aload_n d_NM_read_0 rfl rfl ?_
  obtain ⟨r1, e1, h⟩ := x_bd h
  refine x_cVi (M2 := M_LX_atName) (As := []) (st := []) d_NM_read_1 w_477 k_LX_atName (c_LX_atName e1) rfl sh_LX hp_LX rfl ⟨Nat.le_of_ble_eq_true rfl, Nat.le_of_ble_eq_true rfl⟩ (Nat.le_of_ble_eq_true rfl) (Nat.le_of_ble_eq_true rfl) rfl ?_
  refine x_if_ne (tgt := 9) d_NM_read_4 (by decide) (fun c_ => ?_) (fun c_ => ?_)
  · replace h := x_ie h c_
    refine x_aload_n d_NM_read_9 rfl rfl ?_
    refine x_iload_n d_NM_read_10 rfl rfl ?_
    refine x_iload_n d_NM_read_11 rfl rfl ?_
    refine x_aload_n d_NM_read_12 rfl rfl ?_
    obtain ⟨r13, e13, h⟩ := x_bd h
    refine x_cVi (M2 := M_NM_search) (As := [.int a1, .int a2, .ref 3]) (st := []) d_NM_read_13 w_481 k_NM_search (c_NM_search e13) rfl sh_NM hp_NM rfl ⟨Nat.le_of_ble_eq_true rfl, Nat.le_of_ble_eq_true rfl⟩ (Nat.le_of_ble_eq_true rfl) (Nat.le_of_ble_eq_true rfl) rfl ?_
    refine x_istore (lv2 := [(0, .ref 5), (1, .int a1), (2, .int a2), (3, .ref 3), (4, .int r13.1)]) d_NM_read_16 (by decide) rfl ?_
    refine x_iload d_NM_read_18 rfl ?_
    refine x_iconst (v := (-1)) d_NM_read_20 (by decide) ?_
    refine x_icmp_ne (tgt := 30) d_NM_read_21 (by decide) (fun c_ => ?_) (fun c_ => ?_)
    · replace h := x_ie h c_
      refine x_sbk [4] (lv2 := [(4, .int r13.1)]) rfl ?_; exact b_NM_read_30 h
    · replace h := x_it h c_
      refine x_aload_n d_NM_read_24 rfl rfl ?_
      refine x_iconst (v := 5) d_NM_read_25 (by decide) ?_
      obtain ⟨r26, e26, h⟩ := x_bd h
      refine x_cVi (M2 := M_LX_tellHere) (As := [.int 5]) (st := []) d_NM_read_26 w_489 k_LX_tellHere (c_LX_tellHere e26) rfl sh_LX hp_LX rfl ⟨Nat.le_of_ble_eq_true rfl, Nat.le_of_ble_eq_true rfl⟩ (Nat.le_of_ble_eq_true rfl) (Nat.le_of_ble_eq_true rfl) rfl ?_
      refine x_pop d_NM_read_29 rfl ?_
      refine x_sbk [4] (lv2 := [(4, .int r13.1)]) rfl ?_; exact b_NM_read_30 h
  · replace h := x_it h c_
    refine x_iconst (v := (-1)) d_NM_read_7 (by decide) ?_
    cases h
    exact x_ri d_NM_read_8 rfl rfl
def F_LX_tellUnfit   (m : x_m) : Option (Int32 × x_m) := ((F_LX_tell (m.1 3 8) (m.1 3 2) m).bind fun r9 => (if x_b1 r9.1 = true then some (r9.1, r9.2) else none))
theorem c_LX_tellUnfit {G : x_G} {ex : Bool} {r : Int32 × x_m}   {m : x_m} (h : F_LX_tellUnfit m = some r) : x_R G M_LX_tellUnfit (x_rd 1) ex [.ref 3] x_np (x_hp m) (x_pi r) := by
  unfold F_LX_tellUnfit at h
  show x_W G M_LX_tellUnfit (x_rd 1) (x_Q G (x_rd 1) ex (x_pi r)) ex x_np (x_hp m) 0 0 [(0, .ref 3)] [] 0
  refine x_aload_n d_LX_tellUnfit_0 rfl rfl ?_
  refine x_aload_n d_LX_tellUnfit_1 rfl rfl ?_
  refine x_gI d_LX_tellUnfit_2 (f_LX_44 rfl) sh_LX hp_LX rfl ?_
  refine x_aload_n d_LX_tellUnfit_5 rfl rfl ?_
  refine x_gI d_LX_tellUnfit_6 (f_LX_37 rfl) sh_LX hp_LX rfl ?_
  obtain ⟨r9, e9, h⟩ := x_bd h
  refine x_cVi (M2 := M_LX_tell) (As := [.int (m.1 3 8), .int (m.1 3 2)]) (st := []) d_LX_tellUnfit_9 w_438 k_LX_tell (c_LX_tell e9) rfl sh_LX hp_LX rfl ⟨Nat.le_of_ble_eq_true rfl, Nat.le_of_ble_eq_true rfl⟩ (Nat.le_of_ble_eq_true rfl) (Nat.le_of_ble_eq_true rfl) rfl ?_
  obtain ⟨g_12, h⟩ := x_gd h
  cases h
  exact x_ri d_LX_tellUnfit_12 rfl (x_b1_ok g_12).1
def F_LX_restart   (m : x_m) : Option (x_m) := some (x_wS (x_wS (x_wS m 3 3 0) 3 5 0) 3 6 ((-1)))
theorem c_LX_restart {G : x_G} {ex : Bool} {r : x_m}   {m : x_m} (h : F_LX_restart m = some r) : x_R G M_LX_restart (x_rd 0) ex [.ref 3] x_np (x_hp m) (x_pv r) := by
  unfold F_LX_restart at h
  show x_W G M_LX_restart (x_rd 0) (x_Q G (x_rd 0) ex (x_pv r)) ex x_np (x_hp m) 0 0 [(0, .ref 3)] [] 0
  refine x_aload_n d_LX_restart_0 rfl rfl ?_
  refine x_iconst (v := 0) d_LX_restart_1 (by decide) ?_
  refine x_pI d_LX_restart_2 (f_LX_28 rfl) tb_LX rfl sh_LX hp_LX rfl ⟨rfl, rfl⟩ ?_
  refine x_aload_n d_LX_restart_5 rfl rfl ?_
  refine x_iconst (v := 0) d_LX_restart_6 (by decide) ?_
  refine x_pI d_LX_restart_7 (f_LX_31 rfl) tb_LX rfl sh_LX hp_LX rfl ⟨rfl, rfl⟩ ?_
  refine x_aload_n d_LX_restart_10 rfl rfl ?_
  refine x_iconst (v := (-1)) d_LX_restart_11 (by decide) ?_
  refine x_pI d_LX_restart_12 (f_LX_20 rfl) tb_LX rfl sh_LX hp_LX rfl ⟨rfl, rfl⟩ ?_
  cases h
  exact x_rv d_LX_restart_15 rfl
def B_QU_addColumn_29 (p : Nat)   (m : x_m) : Option (x_m) := some m
theorem b_QU_addColumn_29 {G : x_G} {ex : Bool} {r : x_m} {p : Nat} (hp : x_QB p)   {m : x_m} (h : B_QU_addColumn_29 p m = some r) : x_W G M_QU_addColumn (x_rd 0) (x_Q G (x_rd 0) ex (x_pv r)) ex x_np (x_hp m) 0 0 [] [] 29 := by
  unfold B_QU_addColumn_29 at h
  cases h
  exact x_rv d_QU_addColumn_29 rfl
def F_QU_addColumn (p : Nat) (a1 : Int32) (m : x_m) : Option (x_m) := (if 8 ≤ (m.1 p 4) then B_QU_addColumn_29 p m else (if x_ix (m.1 p 4) 8 = true then B_QU_addColumn_29 p (x_wS (x_wA m (p + 4) (m.1 p 4).toNatClampNeg a1) p 4 (((x_wA m (p + 4) (m.1 p 4).toNatClampNeg a1).1 p 4) + 1)) else none))
theorem c_QU_addColumn {G : x_G} {ex : Bool} {r : x_m} {p : Nat} (hp : x_QB p) {a1 : Int32} {m : x_m} (h : F_QU_addColumn p a1 m = some r) : x_R G M_QU_addColumn (x_rd 0) ex [.ref p, .int a1] x_np (x_hp m) (x_pv r) := by
  unfold F_QU_addColumn at h
  show x_W G M_QU_addColumn (x_rd 0) (x_Q G (x_rd 0) ex (x_pv r)) ex x_np (x_hp m) 0 0 [(0, .ref p), (1, .int a1)] [] 0
  refine x_aload_n d_QU_addColumn_0 rfl rfl ?_
  refine x_gI d_QU_addColumn_1 (f_QU_38 rfl) (sh_QU hp) (hp_QU hp) rfl ?_
  refine x_bipush (v := 8) d_QU_addColumn_4 (by decide) ?_
  refine x_icmp_ge (tgt := 29) d_QU_addColumn_6 (by decide) (fun c_ => ?_) (fun c_ => ?_)
  · replace h := x_it h c_
    refine x_sbk [] (lv2 := []) rfl ?_; exact b_QU_addColumn_29 hp h
  · replace h := x_ie h c_
    refine x_aload_n d_QU_addColumn_9 rfl rfl ?_
    refine x_gC d_QU_addColumn_10 (f_QU_21 rfl) (sh_QU hp) (hp_QU hp) rfl ?_
    refine x_aload_n d_QU_addColumn_13 rfl rfl ?_
    refine x_gI d_QU_addColumn_14 (f_QU_38 rfl) (sh_QU hp) (hp_QU hp) rfl ?_
    refine x_iload_n d_QU_addColumn_17 rfl rfl ?_
    obtain ⟨g_18, h⟩ := x_gd h
    refine x_sI d_QU_addColumn_18 rfl (sa_QU_columns hp) (ha_QU_columns hp) g_18 ?_
    refine x_aload_n d_QU_addColumn_19 rfl rfl ?_
    refine x_dup d_QU_addColumn_20 rfl ?_
    refine x_gI d_QU_addColumn_21 (f_QU_38 rfl) (sh_QU hp) (hp_QU hp) rfl ?_
    refine x_iconst (v := 1) d_QU_addColumn_24 (by decide) ?_
    refine x_iadd d_QU_addColumn_25 ?_
    refine x_pI d_QU_addColumn_26 (f_QU_38 rfl) tb_QU rfl (sh_QU hp) (hp_QU hp) rfl ⟨rfl, rfl⟩ ?_
    refine x_sbk [] (lv2 := []) rfl ?_; exact b_QU_addColumn_29 hp h
def B_QU_hasColumn_2 (p : Nat)  : Nat → Int32 → Int32 → x_m → Option (Int32 × x_m)
  | 0, _, _, _ => none
  | f_ + 1, l1, l2, m => (if (m.1 p 4) ≤ l2 then some (0, m) else (if x_ix l2 8 = true then (if (m.2.1 (p + 4) l2.toNatClampNeg) = l1 then some (1, m) else (B_QU_hasColumn_2 p f_) l1 (l2 + 1) m) else none))
theorem b_QU_hasColumn_2 {G : x_G} {ex : Bool} {r : Int32 × x_m} {p : Nat} (hp : x_QB p)  : ∀ (f_ : Nat) (l1 : Int32) (l2 : Int32) (m : x_m), B_QU_hasColumn_2 p f_ l1 l2 m = some r → x_W G M_QU_hasColumn (x_rd 0) (x_Q G (x_rd 0) ex (x_pi r)) ex x_np (x_hp m) 0 0 [(0, .ref p), (1, .int l1), (2, .int l2)] [] 2 := by
  intro f_
  induction f_ with
  | zero => intro l1 l2 m h; exact nomatch h
  | succ f_ ih =>
    intro l1 l2 m h
    rw [B_QU_hasColumn_2] at h
    have hK2 := ih
    refine x_iload_n d_QU_hasColumn_2 rfl rfl ?_
    refine x_aload_n d_QU_hasColumn_3 rfl rfl ?_
    refine x_gI d_QU_hasColumn_4 (f_QU_38 rfl) (sh_QU hp) (hp_QU hp) rfl ?_
    refine x_icmp_ge (tgt := 28) d_QU_hasColumn_7 (by decide) (fun c_ => ?_) (fun c_ => ?_)
    · replace h := x_it h c_
      refine x_iconst (v := 0) d_QU_hasColumn_28 (by decide) ?_
      cases h
      exact x_ri d_QU_hasColumn_29 rfl rfl
    · replace h := x_ie h c_
      refine x_aload_n d_QU_hasColumn_10 rfl rfl ?_
      refine x_gC d_QU_hasColumn_11 (f_QU_21 rfl) (sh_QU hp) (hp_QU hp) rfl ?_
      refine x_iload_n d_QU_hasColumn_14 rfl rfl ?_
      obtain ⟨g_15, h⟩ := x_gd h
      refine x_lI d_QU_hasColumn_15 rfl (sa_QU_columns hp) (ha_QU_columns hp) g_15 ?_
      refine x_iload_n d_QU_hasColumn_16 rfl rfl ?_
      refine x_icmp_ne (tgt := 22) d_QU_hasColumn_17 (by decide) (fun c_ => ?_) (fun c_ => ?_)
      · replace h := x_ie h c_
        refine x_iinc (v := l2 + 1) (lv2 := [(0, .ref p), (1, .int l1), (2, .int (l2 + 1))]) d_QU_hasColumn_22 rfl rfl (by decide) rfl ?_
        refine x_goto (tgt := 2) d_QU_hasColumn_25 (by decide) ?_
        exact hK2 _ _ _ h
      · replace h := x_it h c_
        refine x_iconst (v := 1) d_QU_hasColumn_20 (by decide) ?_
        cases h
        exact x_ri d_QU_hasColumn_21 rfl rfl
def F_QU_hasColumn (p : Nat) (a1 : Int32) (m : x_m) : Option (Int32 × x_m) := B_QU_hasColumn_2 p x_fu a1 0 m
theorem c_QU_hasColumn {G : x_G} {ex : Bool} {r : Int32 × x_m} {p : Nat} (hp : x_QB p) {a1 : Int32} {m : x_m} (h : F_QU_hasColumn p a1 m = some r) : x_R G M_QU_hasColumn (x_rd 0) ex [.ref p, .int a1] x_np (x_hp m) (x_pi r) := by
  unfold F_QU_hasColumn at h
  show x_W G M_QU_hasColumn (x_rd 0) (x_Q G (x_rd 0) ex (x_pi r)) ex x_np (x_hp m) 0 0 [(0, .ref p), (1, .int a1)] [] 0
  refine x_iconst (v := 0) d_QU_hasColumn_0 (by decide) ?_
  refine x_istore_n (lv2 := [(0, .ref p), (1, .int a1), (2, .int 0)]) d_QU_hasColumn_1 rfl (by decide) rfl ?_
  exact b_QU_hasColumn_2 hp _ _ _ _ h
def B_QU_chosenColumns_22   (s0 : Int32) (m : x_m) : Option (Int32 × x_m) := some (s0, m)
theorem b_QU_chosenColumns_22 {G : x_G} {ex : Bool} {r : Int32 × x_m}   {s0 : Int32} {m : x_m} (h : B_QU_chosenColumns_22 s0 m = some r) : x_W G M_QU_chosenColumns (x_rd 0) (x_Q G (x_rd 0) ex (x_pi r)) ex x_np (x_hp m) 0 0 [] [.int s0] 22 := by
  unfold B_QU_chosenColumns_22 at h
  cases h
  exact x_ri d_QU_chosenColumns_22 rfl rfl
def F_QU_chosenColumns  (a0 : Nat) (a1 : Int32) (a2 : Int32) (m : x_m) : Option (Int32 × x_m) := (if x_kv a0 = true then (if a0 = (x_N + 24) then B_QU_chosenColumns_22 ((((1 : Int32) <<< (a1 &&& 31)) - 1) >>> (a2 &&& 31)) m else B_QU_chosenColumns_22 ((((1 : Int32) <<< (a1 &&& 31)) - 1) - a2) m) else none)
theorem c_QU_chosenColumns {G : x_G} {ex : Bool} {r : Int32 × x_m}  {a0 : Nat} {a1 : Int32} {a2 : Int32} {m : x_m} (h : F_QU_chosenColumns a0 a1 a2 m = some r) : x_R G M_QU_chosenColumns (x_rd 0) ex [.ref a0, .int a1, .int a2] x_np (x_hp m) (x_pi r) := by
  unfold F_QU_chosenColumns at h
  show x_W G M_QU_chosenColumns (x_rd 0) (x_Q G (x_rd 0) ex (x_pi r)) ex x_np (x_hp m) 0 0 [(0, .ref a0), (1, .int a1), (2, .int a2)] [] 0
  refine x_iconst (v := 1) d_QU_chosenColumns_0 (by decide) ?_
  refine x_iload_n d_QU_chosenColumns_1 rfl rfl ?_
  refine x_ishl d_QU_chosenColumns_2 ?_
  refine x_iconst (v := 1) d_QU_chosenColumns_3 (by decide) ?_
  refine x_isub d_QU_chosenColumns_4 ?_
  refine x_istore_n (lv2 := [(0, .ref a0), (1, .int a1), (2, .int a2), (3, .int (((1 : Int32) <<< (a1 &&& 31)) - 1))]) d_QU_chosenColumns_5 rfl (by decide) rfl ?_
  refine x_aload_n d_QU_chosenColumns_6 rfl rfl ?_
  refine x_gets (i := 24) d_QU_chosenColumns_7 (by decide) w_675 ?_
  obtain ⟨g_10_0, h⟩ := x_gd h
  refine x_kacmp_ne (tgt := 19) d_QU_chosenColumns_10 (by decide) g_10_0 (x_kvN 24 (by decide)) (fun c_ => ?_) (fun c_ => ?_)
  · replace h := x_ie h c_
    refine x_iload_n d_QU_chosenColumns_19 rfl rfl ?_
    refine x_iload_n d_QU_chosenColumns_20 rfl rfl ?_
    refine x_isub d_QU_chosenColumns_21 ?_
    refine x_sbk [] (lv2 := []) rfl ?_; exact b_QU_chosenColumns_22 h
  · replace h := x_it h c_
    refine x_iload_n d_QU_chosenColumns_13 rfl rfl ?_
    refine x_iload_n d_QU_chosenColumns_14 rfl rfl ?_
    refine x_ishr d_QU_chosenColumns_15 ?_
    refine x_goto (tgt := 22) d_QU_chosenColumns_16 (by decide) ?_
    refine x_sbk [] (lv2 := []) rfl ?_; exact b_QU_chosenColumns_22 h
def B_QU_addGroup_82 (p : Nat) (K62 : Nat → Int32 → Int32 → Int32 → Int32 → x_m → Option (Int32 × x_m)) : Nat → Nat → Int32 → Int32 → Int32 → Int32 → Int32 → Int32 → x_m → Option (Int32 × x_m)
  | 0, _, _, _, _, _, _, _, _ => none
  | f_ + 1, l1, l2, l3, l4, l5, l6, l7, m => (if (m.1 p 6) ≤ l7 then K62 l1 l2 l3 l4 (l5 + (-1)) m else (if x_ix l7 32 = true then (if x_ix ((l5 * (m.1 p 6)) + l7) 32 = true then (B_QU_addGroup_82 p K62 f_) l1 l2 l3 l4 l5 l6 (l7 + 1) (x_wA m (p + 5) ((l5 * (m.1 p 6)) + l7).toNatClampNeg ((m.2.1 (p + 5) l7.toNatClampNeg) ||| l6)) else none) else none))
theorem b_QU_addGroup_82 {G : x_G} {ex : Bool} {r : Int32 × x_m} {p : Nat} (hp : x_QB p) {K62 : Nat → Int32 → Int32 → Int32 → Int32 → x_m → Option (Int32 × x_m)} (hK62 : ∀ (l1 : Nat) (l2 : Int32) (l3 : Int32) (l4 : Int32) (l5 : Int32) (m : x_m), K62 l1 l2 l3 l4 l5 m = some r → x_W G M_QU_addGroup (x_rd 1) (x_Q G (x_rd 1) ex (x_pi r)) ex x_np (x_hp m) 0 0 [(0, .ref p), (1, .ref l1), (2, .int l2), (3, .int l3), (4, .int l4), (5, .int l5)] [] 62) : ∀ (f_ : Nat) (l1 : Nat) (l2 : Int32) (l3 : Int32) (l4 : Int32) (l5 : Int32) (l6 : Int32) (l7 : Int32) (m : x_m), B_QU_addGroup_82 p K62 f_ l1 l2 l3 l4 l5 l6 l7 m = some r → x_W G M_QU_addGroup (x_rd 1) (x_Q G (x_rd 1) ex (x_pi r)) ex x_np (x_hp m) 0 0 [(0, .ref p), (1, .ref l1), (2, .int l2), (3, .int l3), (4, .int l4), (5, .int l5), (6, .int l6), (7, .int l7)] [] 82 := by
  intro f_
  induction f_ with
  | zero => intro l1 l2 l3 l4 l5 l6 l7 m h; exact nomatch h
  | succ f_ ih =>
    intro l1 l2 l3 l4 l5 l6 l7 m h
    rw [B_QU_addGroup_82] at h
    have hK82 := ih
    refine x_iload d_QU_addGroup_82 rfl ?_
    refine x_aload_n d_QU_addGroup_84 rfl rfl ?_
    refine x_gI d_QU_addGroup_85 (f_QU_41 rfl) (sh_QU hp) (hp_QU hp) rfl ?_
    refine x_icmp_ge (tgt := 122) d_QU_addGroup_88 (by decide) (fun c_ => ?_) (fun c_ => ?_)
    · replace h := x_it h c_
      refine x_iinc (v := l5 + (-1)) (lv2 := [(0, .ref p), (1, .ref l1), (2, .int l2), (3, .int l3), (4, .int l4), (5, .int (l5 + (-1))), (6, .int l6), (7, .int l7)]) d_QU_addGroup_122 rfl rfl (by decide) rfl ?_
      refine x_goto (tgt := 62) d_QU_addGroup_125 (by decide) ?_
      refine x_sbk [0, 1, 2, 3, 4, 5] (lv2 := [(0, .ref p), (1, .ref l1), (2, .int l2), (3, .int l3), (4, .int l4), (5, .int (l5 + (-1)))]) rfl ?_; exact hK62 _ _ _ _ _ _ h
    · replace h := x_ie h c_
      refine x_aload_n d_QU_addGroup_91 rfl rfl ?_
      refine x_gC d_QU_addGroup_92 (f_QU_24 rfl) (sh_QU hp) (hp_QU hp) rfl ?_
      refine x_iload d_QU_addGroup_95 rfl ?_
      refine x_aload_n d_QU_addGroup_97 rfl rfl ?_
      refine x_gI d_QU_addGroup_98 (f_QU_41 rfl) (sh_QU hp) (hp_QU hp) rfl ?_
      refine x_imul d_QU_addGroup_101 ?_
      refine x_iload d_QU_addGroup_102 rfl ?_
      refine x_iadd d_QU_addGroup_104 ?_
      refine x_aload_n d_QU_addGroup_105 rfl rfl ?_
      refine x_gC d_QU_addGroup_106 (f_QU_24 rfl) (sh_QU hp) (hp_QU hp) rfl ?_
      refine x_iload d_QU_addGroup_109 rfl ?_
      obtain ⟨g_111, h⟩ := x_gd h
      refine x_lI d_QU_addGroup_111 rfl (sa_QU_sets hp) (ha_QU_sets hp) g_111 ?_
      refine x_iload d_QU_addGroup_112 rfl ?_
      refine x_ior d_QU_addGroup_114 ?_
      obtain ⟨g_115, h⟩ := x_gd h
      refine x_sI d_QU_addGroup_115 rfl (sa_QU_sets hp) (ha_QU_sets hp) g_115 ?_
      refine x_iinc (v := l7 + 1) (lv2 := [(0, .ref p), (1, .ref l1), (2, .int l2), (3, .int l3), (4, .int l4), (5, .int l5), (6, .int l6), (7, .int (l7 + 1))]) d_QU_addGroup_116 rfl rfl (by decide) rfl ?_
      refine x_goto (tgt := 82) d_QU_addGroup_119 (by decide) ?_
      exact hK82 _ _ _ _ _ _ _ _ h
def B_QU_addGroup_62 (p : Nat)  : Nat → Nat → Int32 → Int32 → Int32 → Int32 → x_m → Option (Int32 × x_m)
  | 0, _, _, _, _, _, _ => none
  | f_ + 1, l1, l2, l3, l4, l5, m => (if l5 < 0 then some (1, x_wS m p 6 ((m.1 p 6) * l3)) else ((F_QU_chosenColumns l1 l2 l5 m).bind fun r71 => B_QU_addGroup_82 p (B_QU_addGroup_62 p f_) x_fu l1 l2 l3 l4 l5 (r71.1 <<< (l4 &&& 31)) 0 r71.2))
theorem b_QU_addGroup_62 {G : x_G} {ex : Bool} {r : Int32 × x_m} {p : Nat} (hp : x_QB p)  : ∀ (f_ : Nat) (l1 : Nat) (l2 : Int32) (l3 : Int32) (l4 : Int32) (l5 : Int32) (m : x_m), B_QU_addGroup_62 p f_ l1 l2 l3 l4 l5 m = some r → x_W G M_QU_addGroup (x_rd 1) (x_Q G (x_rd 1) ex (x_pi r)) ex x_np (x_hp m) 0 0 [(0, .ref p), (1, .ref l1), (2, .int l2), (3, .int l3), (4, .int l4), (5, .int l5)] [] 62 := by
  intro f_
  induction f_ with
  | zero => intro l1 l2 l3 l4 l5 m h; exact nomatch h
  | succ f_ ih =>
    intro l1 l2 l3 l4 l5 m h
    rw [B_QU_addGroup_62] at h
    have hK62 := ih
    refine x_iload d_QU_addGroup_62 rfl ?_
    refine x_if_lt (tgt := 128) d_QU_addGroup_64 (by decide) (fun c_ => ?_) (fun c_ => ?_)
    · replace h := x_it h c_
      refine x_aload_n d_QU_addGroup_128 rfl rfl ?_
      refine x_dup d_QU_addGroup_129 rfl ?_
      refine x_gI d_QU_addGroup_130 (f_QU_41 rfl) (sh_QU hp) (hp_QU hp) rfl ?_
      refine x_iload_n d_QU_addGroup_133 rfl rfl ?_
      refine x_imul d_QU_addGroup_134 ?_
      refine x_pI d_QU_addGroup_135 (f_QU_41 rfl) tb_QU rfl (sh_QU hp) (hp_QU hp) rfl ⟨rfl, rfl⟩ ?_
      refine x_iconst (v := 1) d_QU_addGroup_138 (by decide) ?_
      cases h
      exact x_ri d_QU_addGroup_139 rfl rfl
    · replace h := x_ie h c_
      refine x_aload_n d_QU_addGroup_67 rfl rfl ?_
      refine x_iload_n d_QU_addGroup_68 rfl rfl ?_
      refine x_iload d_QU_addGroup_69 rfl ?_
      obtain ⟨r71, e71, h⟩ := x_bd h
      refine x_cSi (M2 := M_QU_chosenColumns) (As := [.ref l1, .int l2, .int l5]) (st := []) d_QU_addGroup_71 w_676 k_QU_chosenColumns (c_QU_chosenColumns e71) rfl ⟨Nat.le_of_ble_eq_true rfl, Nat.le_of_ble_eq_true rfl⟩ (Nat.le_of_ble_eq_true rfl) (Nat.le_of_ble_eq_true rfl) rfl ?_
      refine x_iload d_QU_addGroup_74 rfl ?_
      refine x_ishl d_QU_addGroup_76 ?_
      refine x_istore (lv2 := [(0, .ref p), (1, .ref l1), (2, .int l2), (3, .int l3), (4, .int l4), (5, .int l5), (6, .int (r71.1 <<< (l4 &&& 31)))]) d_QU_addGroup_77 (by decide) rfl ?_
      refine x_iconst (v := 0) d_QU_addGroup_79 (by decide) ?_
      refine x_istore (lv2 := [(0, .ref p), (1, .ref l1), (2, .int l2), (3, .int l3), (4, .int l4), (5, .int l5), (6, .int (r71.1 <<< (l4 &&& 31))), (7, .int 0)]) d_QU_addGroup_80 (by decide) rfl ?_
      exact b_QU_addGroup_82 hp hK62 _ _ _ _ _ _ _ _ _ h
def B_QU_addGroup_47 (p : Nat)   (m : x_m) : Option (Int32 × x_m) := some (0, m)
theorem b_QU_addGroup_47 {G : x_G} {ex : Bool} {r : Int32 × x_m} {p : Nat} (hp : x_QB p)   {m : x_m} (h : B_QU_addGroup_47 p m = some r) : x_W G M_QU_addGroup (x_rd 1) (x_Q G (x_rd 1) ex (x_pi r)) ex x_np (x_hp m) 0 0 [] [] 47 := by
  unfold B_QU_addGroup_47 at h
  refine x_iconst (v := 0) d_QU_addGroup_47 (by decide) ?_
  cases h
  exact x_ri d_QU_addGroup_48 rfl rfl
def B_QU_addGroup_27 (p : Nat)  (l1 : Nat) (l2 : Int32) (s0 : Int32) (m : x_m) : Option (Int32 × x_m) := (if 32 < (s0 * (m.1 p 6)) then B_QU_addGroup_47 p m else (if l2 ≤ (m.1 p 4) then B_QU_addGroup_62 p x_fu l1 l2 s0 ((m.1 p 4) - l2) (s0 - 1) m else B_QU_addGroup_47 p m))
theorem b_QU_addGroup_27 {G : x_G} {ex : Bool} {r : Int32 × x_m} {p : Nat} (hp : x_QB p)  {l1 : Nat} {l2 : Int32} {s0 : Int32} {m : x_m} (h : B_QU_addGroup_27 p l1 l2 s0 m = some r) : x_W G M_QU_addGroup (x_rd 1) (x_Q G (x_rd 1) ex (x_pi r)) ex x_np (x_hp m) 0 0 [(0, .ref p), (1, .ref l1), (2, .int l2)] [.int s0] 27 := by
  unfold B_QU_addGroup_27 at h
  refine x_istore_n (lv2 := [(0, .ref p), (1, .ref l1), (2, .int l2), (3, .int s0)]) d_QU_addGroup_27 rfl (by decide) rfl ?_
  refine x_iload_n d_QU_addGroup_28 rfl rfl ?_
  refine x_aload_n d_QU_addGroup_29 rfl rfl ?_
  refine x_gI d_QU_addGroup_30 (f_QU_41 rfl) (sh_QU hp) (hp_QU hp) rfl ?_
  refine x_imul d_QU_addGroup_33 ?_
  refine x_bipush (v := 32) d_QU_addGroup_34 (by decide) ?_
  refine x_icmp_gt (tgt := 47) d_QU_addGroup_36 (by decide) (fun c_ => ?_) (fun c_ => ?_)
  · replace h := x_it h c_
    refine x_sbk [] (lv2 := []) rfl ?_; exact b_QU_addGroup_47 hp h
  · replace h := x_ie h c_
    refine x_iload_n d_QU_addGroup_39 rfl rfl ?_
    refine x_aload_n d_QU_addGroup_40 rfl rfl ?_
    refine x_gI d_QU_addGroup_41 (f_QU_38 rfl) (sh_QU hp) (hp_QU hp) rfl ?_
    refine x_icmp_le (tgt := 49) d_QU_addGroup_44 (by decide) (fun c_ => ?_) (fun c_ => ?_)
    · replace h := x_it h c_
      refine x_aload_n d_QU_addGroup_49 rfl rfl ?_
      refine x_gI d_QU_addGroup_50 (f_QU_38 rfl) (sh_QU hp) (hp_QU hp) rfl ?_
      refine x_iload_n d_QU_addGroup_53 rfl rfl ?_
      refine x_isub d_QU_addGroup_54 ?_
      refine x_istore (lv2 := [(0, .ref p), (1, .ref l1), (2, .int l2), (3, .int s0), (4, .int ((m.1 p 4) - l2))]) d_QU_addGroup_55 (by decide) rfl ?_
      refine x_iload_n d_QU_addGroup_57 rfl rfl ?_
      refine x_iconst (v := 1) d_QU_addGroup_58 (by decide) ?_
      refine x_isub d_QU_addGroup_59 ?_
      refine x_istore (lv2 := [(0, .ref p), (1, .ref l1), (2, .int l2), (3, .int s0), (4, .int ((m.1 p 4) - l2)), (5, .int (s0 - 1))]) d_QU_addGroup_60 (by decide) rfl ?_
      exact b_QU_addGroup_62 hp _ _ _ _ _ _ _ h
    · replace h := x_ie h c_
      refine x_sbk [] (lv2 := []) rfl ?_; exact b_QU_addGroup_47 hp h
def F_QU_addGroup (p : Nat) (a1 : Nat) (a2 : Int32) (m : x_m) : Option (Int32 × x_m) := (if x_kv a1 = true then (if a1 = (x_N + 25) then B_QU_addGroup_27 p a1 a2 ((1 : Int32) <<< (a2 &&& 31)) m else (if x_kv a1 = true then (if a1 = (x_N + 24) then B_QU_addGroup_27 p a1 a2 (a2 + 1) m else B_QU_addGroup_27 p a1 a2 1 m) else none)) else none)
theorem c_QU_addGroup {G : x_G} {ex : Bool} {r : Int32 × x_m} {p : Nat} (hp : x_QB p) {a1 : Nat} {a2 : Int32} {m : x_m} (h : F_QU_addGroup p a1 a2 m = some r) : x_R G M_QU_addGroup (x_rd 1) ex [.ref p, .ref a1, .int a2] x_np (x_hp m) (x_pi r) := by
  unfold F_QU_addGroup at h
  show x_W G M_QU_addGroup (x_rd 1) (x_Q G (x_rd 1) ex (x_pi r)) ex x_np (x_hp m) 0 0 [(0, .ref p), (1, .ref a1), (2, .int a2)] [] 0
  refine x_aload_n d_QU_addGroup_0 rfl rfl ?_
  refine x_gets (i := 25) d_QU_addGroup_1 (by decide) w_674 ?_
  obtain ⟨g_4_0, h⟩ := x_gd h
  refine x_kacmp_ne (tgt := 13) d_QU_addGroup_4 (by decide) g_4_0 (x_kvN 25 (by decide)) (fun c_ => ?_) (fun c_ => ?_)
  · replace h := x_ie h c_
    refine x_aload_n d_QU_addGroup_13 rfl rfl ?_
    refine x_gets (i := 24) d_QU_addGroup_14 (by decide) w_675 ?_
    obtain ⟨g_17_0, h⟩ := x_gd h
    refine x_kacmp_ne (tgt := 26) d_QU_addGroup_17 (by decide) g_17_0 (x_kvN 24 (by decide)) (fun c_ => ?_) (fun c_ => ?_)
    · replace h := x_ie h c_
      refine x_iconst (v := 1) d_QU_addGroup_26 (by decide) ?_
      exact b_QU_addGroup_27 hp h
    · replace h := x_it h c_
      refine x_iload_n d_QU_addGroup_20 rfl rfl ?_
      refine x_iconst (v := 1) d_QU_addGroup_21 (by decide) ?_
      refine x_iadd d_QU_addGroup_22 ?_
      refine x_goto (tgt := 27) d_QU_addGroup_23 (by decide) ?_
      exact b_QU_addGroup_27 hp h
  · replace h := x_it h c_
    refine x_iconst (v := 1) d_QU_addGroup_7 (by decide) ?_
    refine x_iload_n d_QU_addGroup_8 rfl rfl ?_
    refine x_ishl d_QU_addGroup_9 ?_
    refine x_goto (tgt := 27) d_QU_addGroup_10 (by decide) ?_
    exact b_QU_addGroup_27 hp h
def B_QG_itemType_48   (s0 : Int32) (m : x_m) : Option (Int32 × x_m) := some (s0, m)
theorem b_QG_itemType_48 {G : x_G} {ex : Bool} {r : Int32 × x_m}   {s0 : Int32} {m : x_m} (h : B_QG_itemType_48 s0 m = some r) : x_W G M_QG_itemType (x_rd 0) (x_Q G (x_rd 0) ex (x_pi r)) ex x_np (x_hp m) 0 0 [] [.int s0] 48 := by
  unfold B_QG_itemType_48 at h
  cases h
  exact x_ri d_QG_itemType_48 rfl rfl
def F_QG_itemType  (a0 : Nat) (m : x_m) : Option (Int32 × x_m) := (if x_kv a0 = true then (if a0 = (x_N + 27) then some (1, m) else (if x_kv a0 = true then (if a0 = (x_N + 29) then some (2, m) else (if x_kv a0 = true then (if a0 = (x_N + 30) then some (3, m) else (if x_kv a0 = true then (if a0 = (x_N + 28) then some (4, m) else (if x_kv a0 = true then (if a0 = (x_N + 26) then B_QG_itemType_48 5 m else B_QG_itemType_48 0 m) else none)) else none)) else none)) else none)) else none)
theorem c_QG_itemType {G : x_G} {ex : Bool} {r : Int32 × x_m}  {a0 : Nat} {m : x_m} (h : F_QG_itemType a0 m = some r) : x_R G M_QG_itemType (x_rd 0) ex [.ref a0] x_np (x_hp m) (x_pi r) := by
  unfold F_QG_itemType at h
  show x_W G M_QG_itemType (x_rd 0) (x_Q G (x_rd 0) ex (x_pi r)) ex x_np (x_hp m) 0 0 [(0, .ref a0)] [] 0
  refine x_aload_n d_QG_itemType_0 rfl rfl ?_
  refine x_gets (i := 27) d_QG_itemType_1 (by decide) w_459 ?_
  obtain ⟨g_4_0, h⟩ := x_gd h
  refine x_kacmp_ne (tgt := 9) d_QG_itemType_4 (by decide) g_4_0 (x_kvN 27 (by decide)) (fun c_ => ?_) (fun c_ => ?_)
  · replace h := x_ie h c_
    refine x_aload_n d_QG_itemType_9 rfl rfl ?_
    refine x_gets (i := 29) d_QG_itemType_10 (by decide) w_461 ?_
    obtain ⟨g_13_0, h⟩ := x_gd h
    refine x_kacmp_ne (tgt := 18) d_QG_itemType_13 (by decide) g_13_0 (x_kvN 29 (by decide)) (fun c_ => ?_) (fun c_ => ?_)
    · replace h := x_ie h c_
      refine x_aload_n d_QG_itemType_18 rfl rfl ?_
      refine x_gets (i := 30) d_QG_itemType_19 (by decide) w_463 ?_
      obtain ⟨g_22_0, h⟩ := x_gd h
      refine x_kacmp_ne (tgt := 27) d_QG_itemType_22 (by decide) g_22_0 (x_kvN 30 (by decide)) (fun c_ => ?_) (fun c_ => ?_)
      · replace h := x_ie h c_
        refine x_aload_n d_QG_itemType_27 rfl rfl ?_
        refine x_gets (i := 28) d_QG_itemType_28 (by decide) w_465 ?_
        obtain ⟨g_31_0, h⟩ := x_gd h
        refine x_kacmp_ne (tgt := 36) d_QG_itemType_31 (by decide) g_31_0 (x_kvN 28 (by decide)) (fun c_ => ?_) (fun c_ => ?_)
        · replace h := x_ie h c_
          refine x_aload_n d_QG_itemType_36 rfl rfl ?_
          refine x_gets (i := 26) d_QG_itemType_37 (by decide) w_467 ?_
          obtain ⟨g_40_0, h⟩ := x_gd h
          refine x_kacmp_ne (tgt := 47) d_QG_itemType_40 (by decide) g_40_0 (x_kvN 26 (by decide)) (fun c_ => ?_) (fun c_ => ?_)
          · replace h := x_ie h c_
            refine x_iconst (v := 0) d_QG_itemType_47 (by decide) ?_
            refine x_sbk [] (lv2 := []) rfl ?_; exact b_QG_itemType_48 h
          · replace h := x_it h c_
            refine x_iconst (v := 5) d_QG_itemType_43 (by decide) ?_
            refine x_goto (tgt := 48) d_QG_itemType_44 (by decide) ?_
            refine x_sbk [] (lv2 := []) rfl ?_; exact b_QG_itemType_48 h
        · replace h := x_it h c_
          refine x_iconst (v := 4) d_QG_itemType_34 (by decide) ?_
          cases h
          exact x_ri d_QG_itemType_35 rfl rfl
      · replace h := x_it h c_
        refine x_iconst (v := 3) d_QG_itemType_25 (by decide) ?_
        cases h
        exact x_ri d_QG_itemType_26 rfl rfl
    · replace h := x_it h c_
      refine x_iconst (v := 2) d_QG_itemType_16 (by decide) ?_
      cases h
      exact x_ri d_QG_itemType_17 rfl rfl
  · replace h := x_it h c_
    refine x_iconst (v := 1) d_QG_itemType_7 (by decide) ?_
    cases h
    exact x_ri d_QG_itemType_8 rfl rfl
def B_QG_readSummed_23   (s0 : Int32) (m : x_m) : Option (Int32 × x_m) := some (s0, m)
theorem b_QG_readSummed_23 {G : x_G} {ex : Bool} {r : Int32 × x_m}   {s0 : Int32} {m : x_m} (h : B_QG_readSummed_23 s0 m = some r) : x_W G M_QG_readSummed (x_rd 3) (x_Q G (x_rd 3) ex (x_pi r)) ex x_np (x_hp m) 0 0 [] [.int s0] 23 := by
  unfold B_QG_readSummed_23 at h
  cases h
  exact x_ri d_QG_readSummed_23 rfl rfl
def F_QG_readSummed  (a1 : Int32) (m : x_m) : Option (Int32 × x_m) := (if a1 = 4 then ((F_LX_at (x_N + 10) m).bind fun r12 => (if r12.1 = 0 then B_QG_readSummed_23 ((-1)) r12.2 else B_QG_readSummed_23 0 r12.2)) else ((F_NM_read 40 (m.1 4 3) m).bind fun r41 => some (r41.1, r41.2)))
theorem c_QG_readSummed {G : x_G} {ex : Bool} {r : Int32 × x_m}  {a1 : Int32} {m : x_m} (h : F_QG_readSummed a1 m = some r) : x_R G M_QG_readSummed (x_rd 3) ex [.ref 114, .int a1] x_np (x_hp m) (x_pi r) := by
  unfold F_QG_readSummed at h
  show x_W G M_QG_readSummed (x_rd 3) (x_Q G (x_rd 3) ex (x_pi r)) ex x_np (x_hp m) 0 0 [(0, .ref 114), (1, .int a1)] [] 0
  refine x_iload_n d_QG_readSummed_0 rfl rfl ?_
  refine x_iconst (v := 4) d_QG_readSummed_1 (by decide) ?_
  refine x_icmp_ne (tgt := 24) d_QG_readSummed_2 (by decide) (fun c_ => ?_) (fun c_ => ?_)
  · replace h := x_ie h c_
    refine x_aload_n d_QG_readSummed_24 rfl rfl ?_
    refine x_gC d_QG_readSummed_25 (f_QG_35 rfl) sh_QG hp_QG rfl ?_
    refine x_bipush (v := 40) d_QG_readSummed_28 (by decide) ?_
    refine x_aload_n d_QG_readSummed_30 rfl rfl ?_
    refine x_gC d_QG_readSummed_31 (f_QG_25 rfl) sh_QG hp_QG rfl ?_
    refine x_gI d_QG_readSummed_34 (f_QG_132 rfl) sh_CT hp_CT rfl ?_
    refine x_aload_n d_QG_readSummed_37 rfl rfl ?_
    refine x_gC d_QG_readSummed_38 (f_QG_21 rfl) sh_QG hp_QG rfl ?_
    obtain ⟨r41, e41, h⟩ := x_bd h
    refine x_cVi (M2 := M_NM_read) (As := [.int 40, .int (m.1 4 3), .ref 3]) (st := []) d_QG_readSummed_41 w_473 k_NM_read (c_NM_read e41) rfl sh_NM hp_NM rfl ⟨Nat.le_of_ble_eq_true rfl, Nat.le_of_ble_eq_true rfl⟩ (Nat.le_of_ble_eq_true rfl) (Nat.le_of_ble_eq_true rfl) rfl ?_
    cases h
    exact x_ri d_QG_readSummed_44 rfl rfl
  · replace h := x_it h c_
    refine x_aload_n d_QG_readSummed_5 rfl rfl ?_
    refine x_gC d_QG_readSummed_6 (f_QG_21 rfl) sh_QG hp_QG rfl ?_
    refine x_gets (i := 10) d_QG_readSummed_9 (by decide) w_510 ?_
    obtain ⟨r12, e12, h⟩ := x_bd h
    refine x_cVi (M2 := M_LX_at) (As := [.ref (x_N + 10)]) (st := []) d_QG_readSummed_12 w_512 k_LX_at (c_LX_at e12) rfl sh_LX hp_LX rfl ⟨Nat.le_of_ble_eq_true rfl, Nat.le_of_ble_eq_true rfl⟩ (Nat.le_of_ble_eq_true rfl) (Nat.le_of_ble_eq_true rfl) rfl ?_
    refine x_if_eq (tgt := 22) d_QG_readSummed_15 (by decide) (fun c_ => ?_) (fun c_ => ?_)
    · replace h := x_it h c_
      refine x_iconst (v := (-1)) d_QG_readSummed_22 (by decide) ?_
      refine x_sbk [] (lv2 := []) rfl ?_; exact b_QG_readSummed_23 h
    · replace h := x_ie h c_
      refine x_iconst (v := 0) d_QG_readSummed_18 (by decide) ?_
      refine x_goto (tgt := 23) d_QG_readSummed_19 (by decide) ?_
      refine x_sbk [] (lv2 := []) rfl ?_; exact b_QG_readSummed_23 h
def B_QU_addItem_49 (p : Nat)   (m : x_m) : Option (x_m) := some m
theorem b_QU_addItem_49 {G : x_G} {ex : Bool} {r : x_m} {p : Nat} (hp : x_QB p)   {m : x_m} (h : B_QU_addItem_49 p m = some r) : x_W G M_QU_addItem (x_rd 0) (x_Q G (x_rd 0) ex (x_pv r)) ex x_np (x_hp m) 0 0 [] [] 49 := by
  unfold B_QU_addItem_49 at h
  cases h
  exact x_rv d_QU_addItem_49 rfl
def F_QU_addItem (p : Nat) (a1 : Int32) (a2 : Int32) (a3 : Int32) (m : x_m) : Option (x_m) := (if 24 ≤ (m.1 p 0) then B_QU_addItem_49 p m else (if x_ix (m.1 p 0) 24 = true then (if x_ix ((x_wA m (p + 1) (m.1 p 0).toNatClampNeg a1).1 p 0) 24 = true then (if x_ix ((x_wA (x_wA m (p + 1) (m.1 p 0).toNatClampNeg a1) (p + 2) ((x_wA m (p + 1) (m.1 p 0).toNatClampNeg a1).1 p 0).toNatClampNeg a2).1 p 0) 24 = true then B_QU_addItem_49 p (x_wS (x_wA (x_wA (x_wA m (p + 1) (m.1 p 0).toNatClampNeg a1) (p + 2) ((x_wA m (p + 1) (m.1 p 0).toNatClampNeg a1).1 p 0).toNatClampNeg a2) (p + 3) ((x_wA (x_wA m (p + 1) (m.1 p 0).toNatClampNeg a1) (p + 2) ((x_wA m (p + 1) (m.1 p 0).toNatClampNeg a1).1 p 0).toNatClampNeg a2).1 p 0).toNatClampNeg a3) p 0 (((x_wA (x_wA (x_wA m (p + 1) (m.1 p 0).toNatClampNeg a1) (p + 2) ((x_wA m (p + 1) (m.1 p 0).toNatClampNeg a1).1 p 0).toNatClampNeg a2) (p + 3) ((x_wA (x_wA m (p + 1) (m.1 p 0).toNatClampNeg a1) (p + 2) ((x_wA m (p + 1) (m.1 p 0).toNatClampNeg a1).1 p 0).toNatClampNeg a2).1 p 0).toNatClampNeg a3).1 p 0) + 1)) else none) else none) else none))
theorem c_QU_addItem {G : x_G} {ex : Bool} {r : x_m} {p : Nat} (hp : x_QB p) {a1 : Int32} {a2 : Int32} {a3 : Int32} {m : x_m} (h : F_QU_addItem p a1 a2 a3 m = some r) : x_R G M_QU_addItem (x_rd 0) ex [.ref p, .int a1, .int a2, .int a3] x_np (x_hp m) (x_pv r) := by
  unfold F_QU_addItem at h
  show x_W G M_QU_addItem (x_rd 0) (x_Q G (x_rd 0) ex (x_pv r)) ex x_np (x_hp m) 0 0 [(0, .ref p), (1, .int a1), (2, .int a2), (3, .int a3)] [] 0
  refine x_aload_n d_QU_addItem_0 rfl rfl ?_
  refine x_gI d_QU_addItem_1 (f_QU_34 rfl) (sh_QU hp) (hp_QU hp) rfl ?_
  refine x_bipush (v := 24) d_QU_addItem_4 (by decide) ?_
  refine x_icmp_ge (tgt := 49) d_QU_addItem_6 (by decide) (fun c_ => ?_) (fun c_ => ?_)
  · replace h := x_it h c_
    refine x_sbk [] (lv2 := []) rfl ?_; exact b_QU_addItem_49 hp h
  · replace h := x_ie h c_
    refine x_aload_n d_QU_addItem_9 rfl rfl ?_
    refine x_gC d_QU_addItem_10 (f_QU_11 rfl) (sh_QU hp) (hp_QU hp) rfl ?_
    refine x_aload_n d_QU_addItem_13 rfl rfl ?_
    refine x_gI d_QU_addItem_14 (f_QU_34 rfl) (sh_QU hp) (hp_QU hp) rfl ?_
    refine x_iload_n d_QU_addItem_17 rfl rfl ?_
    obtain ⟨g_18, h⟩ := x_gd h
    refine x_sI d_QU_addItem_18 rfl (sa_QU_itemTypes hp) (ha_QU_itemTypes hp) g_18 ?_
    refine x_aload_n d_QU_addItem_19 rfl rfl ?_
    refine x_gC d_QU_addItem_20 (f_QU_15 rfl) (sh_QU hp) (hp_QU hp) rfl ?_
    refine x_aload_n d_QU_addItem_23 rfl rfl ?_
    refine x_gI d_QU_addItem_24 (f_QU_34 rfl) (sh_QU hp) (hp_QU hp) rfl ?_
    refine x_iload_n d_QU_addItem_27 rfl rfl ?_
    obtain ⟨g_28, h⟩ := x_gd h
    refine x_sI d_QU_addItem_28 rfl (sa_QU_itemTargets hp) (ha_QU_itemTargets hp) g_28 ?_
    refine x_aload_n d_QU_addItem_29 rfl rfl ?_
    refine x_gC d_QU_addItem_30 (f_QU_18 rfl) (sh_QU hp) (hp_QU hp) rfl ?_
    refine x_aload_n d_QU_addItem_33 rfl rfl ?_
    refine x_gI d_QU_addItem_34 (f_QU_34 rfl) (sh_QU hp) (hp_QU hp) rfl ?_
    refine x_iload_n d_QU_addItem_37 rfl rfl ?_
    obtain ⟨g_38, h⟩ := x_gd h
    refine x_sI d_QU_addItem_38 rfl (sa_QU_itemPlaces hp) (ha_QU_itemPlaces hp) g_38 ?_
    refine x_aload_n d_QU_addItem_39 rfl rfl ?_
    refine x_dup d_QU_addItem_40 rfl ?_
    refine x_gI d_QU_addItem_41 (f_QU_34 rfl) (sh_QU hp) (hp_QU hp) rfl ?_
    refine x_iconst (v := 1) d_QU_addItem_44 (by decide) ?_
    refine x_iadd d_QU_addItem_45 ?_
    refine x_pI d_QU_addItem_46 (f_QU_34 rfl) tb_QU rfl (sh_QU hp) (hp_QU hp) rfl ⟨rfl, rfl⟩ ?_
    refine x_sbk [] (lv2 := []) rfl ?_; exact b_QU_addItem_49 hp h
def B_CN_join_14 (p : Nat)  (l3 : Int32) (m : x_m) : Option (Int32 × x_m) := some (l3, m)
theorem b_CN_join_14 {G : x_G} {ex : Bool} {r : Int32 × x_m} {p : Nat} (hp : x_CN p)  {l3 : Int32} {m : x_m} (h : B_CN_join_14 p l3 m = some r) : x_W G M_CN_join (x_rd 0) (x_Q G (x_rd 0) ex (x_pi r)) ex x_np (x_hp m) 0 0 [(3, .int l3)] [] 14 := by
  unfold B_CN_join_14 at h
  refine x_iload_n d_CN_join_14 rfl rfl ?_
  cases h
  exact x_ri d_CN_join_15 rfl rfl
def F_CN_join (p : Nat) (a1 : Int32) (a2 : Int32) (a3 : Int32) (m : x_m) : Option (Int32 × x_m) := (if a2 = ((-1)) then B_CN_join_14 p a3 m else (if (m.1 p 3) < 59 then (if x_ix (m.1 p 3) 59 = true then (if x_ix ((x_wA m (p + 2) (m.1 p 3).toNatClampNeg a2).1 p 3) 59 = true then (if x_ix ((x_wA (x_wA m (p + 2) (m.1 p 3).toNatClampNeg a2) (p + 3) ((x_wA m (p + 2) (m.1 p 3).toNatClampNeg a2).1 p 3).toNatClampNeg a3).1 p 3) 59 = true then (if x_ix (60 + (m.1 p 3)) 119 = true then some (60 + (m.1 p 3), x_wS (x_wA (x_wA (x_wA (x_wA m (p + 2) (m.1 p 3).toNatClampNeg a2) (p + 3) ((x_wA m (p + 2) (m.1 p 3).toNatClampNeg a2).1 p 3).toNatClampNeg a3) (p + 4) ((x_wA (x_wA m (p + 2) (m.1 p 3).toNatClampNeg a2) (p + 3) ((x_wA m (p + 2) (m.1 p 3).toNatClampNeg a2).1 p 3).toNatClampNeg a3).1 p 3).toNatClampNeg (vp_nar .boolean a1)) (p + 5) (60 + (m.1 p 3)).toNatClampNeg (vp_nar .boolean 0)) p 3 (((x_wA (x_wA (x_wA (x_wA m (p + 2) (m.1 p 3).toNatClampNeg a2) (p + 3) ((x_wA m (p + 2) (m.1 p 3).toNatClampNeg a2).1 p 3).toNatClampNeg a3) (p + 4) ((x_wA (x_wA m (p + 2) (m.1 p 3).toNatClampNeg a2) (p + 3) ((x_wA m (p + 2) (m.1 p 3).toNatClampNeg a2).1 p 3).toNatClampNeg a3).1 p 3).toNatClampNeg (vp_nar .boolean a1)) (p + 5) (60 + (m.1 p 3)).toNatClampNeg (vp_nar .boolean 0)).1 p 3) + 1)) else none) else none) else none) else none) else B_CN_join_14 p a3 m))
theorem c_CN_join {G : x_G} {ex : Bool} {r : Int32 × x_m} {p : Nat} (hp : x_CN p) {a1 : Int32} {a2 : Int32} {a3 : Int32} {m : x_m} (h : F_CN_join p a1 a2 a3 m = some r) : x_R G M_CN_join (x_rd 0) ex [.ref p, .int a1, .int a2, .int a3] x_np (x_hp m) (x_pi r) := by
  unfold F_CN_join at h
  show x_W G M_CN_join (x_rd 0) (x_Q G (x_rd 0) ex (x_pi r)) ex x_np (x_hp m) 0 0 [(0, .ref p), (1, .int a1), (2, .int a2), (3, .int a3)] [] 0
  refine x_iload_n d_CN_join_0 rfl rfl ?_
  refine x_iconst (v := (-1)) d_CN_join_1 (by decide) ?_
  refine x_icmp_eq (tgt := 14) d_CN_join_2 (by decide) (fun c_ => ?_) (fun c_ => ?_)
  · replace h := x_it h c_
    refine x_sbk [3] (lv2 := [(3, .int a3)]) rfl ?_; exact b_CN_join_14 hp h
  · replace h := x_ie h c_
    refine x_aload_n d_CN_join_5 rfl rfl ?_
    refine x_gI d_CN_join_6 (f_CN_48 rfl) (sh_CN hp) (hp_CN hp) rfl ?_
    refine x_bipush (v := 59) d_CN_join_9 (by decide) ?_
    refine x_icmp_lt (tgt := 16) d_CN_join_11 (by decide) (fun c_ => ?_) (fun c_ => ?_)
    · replace h := x_it h c_
      refine x_bipush (v := 60) d_CN_join_16 (by decide) ?_
      refine x_aload_n d_CN_join_18 rfl rfl ?_
      refine x_gI d_CN_join_19 (f_CN_48 rfl) (sh_CN hp) (hp_CN hp) rfl ?_
      refine x_iadd d_CN_join_22 ?_
      refine x_istore (lv2 := [(0, .ref p), (1, .int a1), (2, .int a2), (3, .int a3), (4, .int (60 + (m.1 p 3)))]) d_CN_join_23 (by decide) rfl ?_
      refine x_aload_n d_CN_join_25 rfl rfl ?_
      refine x_gC d_CN_join_26 (f_CN_17 rfl) (sh_CN hp) (hp_CN hp) rfl ?_
      refine x_aload_n d_CN_join_29 rfl rfl ?_
      refine x_gI d_CN_join_30 (f_CN_48 rfl) (sh_CN hp) (hp_CN hp) rfl ?_
      refine x_iload_n d_CN_join_33 rfl rfl ?_
      obtain ⟨g_34, h⟩ := x_gd h
      refine x_sI d_CN_join_34 rfl (sa_CN_lefts hp) (ha_CN_lefts hp) g_34 ?_
      refine x_aload_n d_CN_join_35 rfl rfl ?_
      refine x_gC d_CN_join_36 (f_CN_21 rfl) (sh_CN hp) (hp_CN hp) rfl ?_
      refine x_aload_n d_CN_join_39 rfl rfl ?_
      refine x_gI d_CN_join_40 (f_CN_48 rfl) (sh_CN hp) (hp_CN hp) rfl ?_
      refine x_iload_n d_CN_join_43 rfl rfl ?_
      obtain ⟨g_44, h⟩ := x_gd h
      refine x_sI d_CN_join_44 rfl (sa_CN_rights hp) (ha_CN_rights hp) g_44 ?_
      refine x_aload_n d_CN_join_45 rfl rfl ?_
      refine x_gC d_CN_join_46 (f_CN_24 rfl) (sh_CN hp) (hp_CN hp) rfl ?_
      refine x_aload_n d_CN_join_49 rfl rfl ?_
      refine x_gI d_CN_join_50 (f_CN_48 rfl) (sh_CN hp) (hp_CN hp) rfl ?_
      refine x_iload_n d_CN_join_53 rfl rfl ?_
      obtain ⟨g_54, h⟩ := x_gd h
      refine x_sZ d_CN_join_54 rfl (sa_CN_isAnd hp) (ha_CN_isAnd hp) g_54 ?_
      refine x_aload_n d_CN_join_55 rfl rfl ?_
      refine x_gC d_CN_join_56 (f_CN_28 rfl) (sh_CN hp) (hp_CN hp) rfl ?_
      refine x_iload d_CN_join_59 rfl ?_
      refine x_iconst (v := 0) d_CN_join_61 (by decide) ?_
      obtain ⟨g_62, h⟩ := x_gd h
      refine x_sZ d_CN_join_62 rfl (sa_CN_isNegated hp) (ha_CN_isNegated hp) g_62 ?_
      refine x_aload_n d_CN_join_63 rfl rfl ?_
      refine x_dup d_CN_join_64 rfl ?_
      refine x_gI d_CN_join_65 (f_CN_48 rfl) (sh_CN hp) (hp_CN hp) rfl ?_
      refine x_iconst (v := 1) d_CN_join_68 (by decide) ?_
      refine x_iadd d_CN_join_69 ?_
      refine x_pI d_CN_join_70 (f_CN_48 rfl) tb_CN rfl (sh_CN hp) (hp_CN hp) rfl ⟨rfl, rfl⟩ ?_
      refine x_iload d_CN_join_73 rfl ?_
      cases h
      exact x_ri d_CN_join_75 rfl rfl
    · replace h := x_ie h c_
      refine x_sbk [3] (lv2 := [(3, .int a3)]) rfl ?_; exact b_CN_join_14 hp h
def B_CN_attach_42 (p : Nat)  (l1 : Int32) (m : x_m) : Option (x_m) := (if x_ix (m.1 p 1) 41 = true then ((F_CN_join p 1 (m.2.1 (p + 8) (m.1 p 1).toNatClampNeg) l1 m).bind fun r62 => (if x_ix (m.1 p 1) 41 = true then some (x_wA r62.2 (p + 8) (m.1 p 1).toNatClampNeg r62.1) else none)) else none)
theorem b_CN_attach_42 {G : x_G} {ex : Bool} {r : x_m} {p : Nat} (hp : x_CN p)  {l1 : Int32} {m : x_m} (h : B_CN_attach_42 p l1 m = some r) : x_W G M_CN_attach (x_rd 1) (x_Q G (x_rd 1) ex (x_pv r)) ex x_np (x_hp m) 0 0 [(0, .ref p), (1, .int l1)] [] 42 := by
  unfold B_CN_attach_42 at h
  refine x_aload_n d_CN_attach_42 rfl rfl ?_
  refine x_gC d_CN_attach_43 (f_CN_37 rfl) (sh_CN hp) (hp_CN hp) rfl ?_
  refine x_aload_n d_CN_attach_46 rfl rfl ?_
  refine x_gI d_CN_attach_47 (f_CN_51 rfl) (sh_CN hp) (hp_CN hp) rfl ?_
  refine x_aload_n d_CN_attach_50 rfl rfl ?_
  refine x_iconst (v := 1) d_CN_attach_51 (by decide) ?_
  refine x_aload_n d_CN_attach_52 rfl rfl ?_
  refine x_gC d_CN_attach_53 (f_CN_37 rfl) (sh_CN hp) (hp_CN hp) rfl ?_
  refine x_aload_n d_CN_attach_56 rfl rfl ?_
  refine x_gI d_CN_attach_57 (f_CN_51 rfl) (sh_CN hp) (hp_CN hp) rfl ?_
  obtain ⟨g_60, h⟩ := x_gd h
  refine x_lI d_CN_attach_60 rfl (sa_CN_beforeAnd hp) (ha_CN_beforeAnd hp) g_60 ?_
  refine x_iload_n d_CN_attach_61 rfl rfl ?_
  obtain ⟨r62, e62, h⟩ := x_bd h
  refine x_cVi (M2 := M_CN_join) (As := [.int 1, .int (m.2.1 (p + 8) (m.1 p 1).toNatClampNeg), .int l1]) (st := [.int (m.1 p 1), .ref (p + 8)]) d_CN_attach_62 w_619 k_CN_join (c_CN_join hp e62) rfl (sh_CN hp) (hp_CN hp) rfl ⟨Nat.le_of_ble_eq_true rfl, Nat.le_of_ble_eq_true rfl⟩ (Nat.le_of_ble_eq_true rfl) (Nat.le_of_ble_eq_true rfl) rfl ?_
  obtain ⟨g_65, h⟩ := x_gd h
  refine x_sI d_CN_attach_65 rfl (sa_CN_beforeAnd hp) (ha_CN_beforeAnd hp) g_65 ?_
  cases h
  exact x_rv d_CN_attach_66 rfl
def B_CN_attach_31 (p : Nat)  (l1 : Int32) (s0 : Int32) (s1 : Int32) (m : x_m) : Option (x_m) := (if x_ix s1 119 = true then (if x_ix ((x_wA m (p + 5) s1.toNatClampNeg (vp_nar .boolean s0)).1 p 1) 41 = true then B_CN_attach_42 p l1 (x_wA (x_wA m (p + 5) s1.toNatClampNeg (vp_nar .boolean s0)) (p + 9) ((x_wA m (p + 5) s1.toNatClampNeg (vp_nar .boolean s0)).1 p 1).toNatClampNeg (vp_nar .boolean 0)) else none) else none)
theorem b_CN_attach_31 {G : x_G} {ex : Bool} {r : x_m} {p : Nat} (hp : x_CN p)  {l1 : Int32} {s0 : Int32} {s1 : Int32} {m : x_m} (h : B_CN_attach_31 p l1 s0 s1 m = some r) : x_W G M_CN_attach (x_rd 1) (x_Q G (x_rd 1) ex (x_pv r)) ex x_np (x_hp m) 0 0 [(0, .ref p), (1, .int l1)] [.int s0, .int s1, .ref (p + 5)] 31 := by
  unfold B_CN_attach_31 at h
  obtain ⟨g_31, h⟩ := x_gd h
  refine x_sZ d_CN_attach_31 rfl (sa_CN_isNegated hp) (ha_CN_isNegated hp) g_31 ?_
  refine x_aload_n d_CN_attach_32 rfl rfl ?_
  refine x_gC d_CN_attach_33 (f_CN_40 rfl) (sh_CN hp) (hp_CN hp) rfl ?_
  refine x_aload_n d_CN_attach_36 rfl rfl ?_
  refine x_gI d_CN_attach_37 (f_CN_51 rfl) (sh_CN hp) (hp_CN hp) rfl ?_
  refine x_iconst (v := 0) d_CN_attach_40 (by decide) ?_
  obtain ⟨g_41, h⟩ := x_gd h
  refine x_sZ d_CN_attach_41 rfl (sa_CN_isNotAhead hp) (ha_CN_isNotAhead hp) g_41 ?_
  exact b_CN_attach_42 hp h
def F_CN_attach (p : Nat) (a1 : Int32) (m : x_m) : Option (x_m) := (if x_ix (m.1 p 1) 41 = true then (if (m.2.1 (p + 9) (m.1 p 1).toNatClampNeg) = 0 then B_CN_attach_42 p a1 m else (if x_ix a1 119 = true then (if (m.2.1 (p + 5) a1.toNatClampNeg) = 0 then B_CN_attach_31 p a1 1 a1 m else B_CN_attach_31 p a1 0 a1 m) else none)) else none)
theorem c_CN_attach {G : x_G} {ex : Bool} {r : x_m} {p : Nat} (hp : x_CN p) {a1 : Int32} {m : x_m} (h : F_CN_attach p a1 m = some r) : x_R G M_CN_attach (x_rd 1) ex [.ref p, .int a1] x_np (x_hp m) (x_pv r) := by
  unfold F_CN_attach at h
  show x_W G M_CN_attach (x_rd 1) (x_Q G (x_rd 1) ex (x_pv r)) ex x_np (x_hp m) 0 0 [(0, .ref p), (1, .int a1)] [] 0
  refine x_aload_n d_CN_attach_0 rfl rfl ?_
  refine x_gC d_CN_attach_1 (f_CN_40 rfl) (sh_CN hp) (hp_CN hp) rfl ?_
  refine x_aload_n d_CN_attach_4 rfl rfl ?_
  refine x_gI d_CN_attach_5 (f_CN_51 rfl) (sh_CN hp) (hp_CN hp) rfl ?_
  obtain ⟨g_8, h⟩ := x_gd h
  refine x_lZ d_CN_attach_8 rfl (sa_CN_isNotAhead hp) (ha_CN_isNotAhead hp) g_8 ?_
  refine x_if_eq (tgt := 42) d_CN_attach_9 (by decide) (fun c_ => ?_) (fun c_ => ?_)
  · replace h := x_it h c_
    exact b_CN_attach_42 hp h
  · replace h := x_ie h c_
    refine x_aload_n d_CN_attach_12 rfl rfl ?_
    refine x_gC d_CN_attach_13 (f_CN_28 rfl) (sh_CN hp) (hp_CN hp) rfl ?_
    refine x_iload_n d_CN_attach_16 rfl rfl ?_
    refine x_aload_n d_CN_attach_17 rfl rfl ?_
    refine x_gC d_CN_attach_18 (f_CN_28 rfl) (sh_CN hp) (hp_CN hp) rfl ?_
    refine x_iload_n d_CN_attach_21 rfl rfl ?_
    obtain ⟨g_22, h⟩ := x_gd h
    refine x_lZ d_CN_attach_22 rfl (sa_CN_isNegated hp) (ha_CN_isNegated hp) g_22 ?_
    refine x_if_ne (tgt := 30) d_CN_attach_23 (by decide) (fun c_ => ?_) (fun c_ => ?_)
    · replace h := x_ie h c_
      refine x_iconst (v := 0) d_CN_attach_30 (by decide) ?_
      exact b_CN_attach_31 hp h
    · replace h := x_it h c_
      refine x_iconst (v := 1) d_CN_attach_26 (by decide) ?_
      refine x_goto (tgt := 31) d_CN_attach_27 (by decide) ?_
      exact b_CN_attach_31 hp h
def F_CN_addComing (p : Nat)  (m : x_m) : Option (x_m) := (if x_ix (m.1 p 0) 119 = true then ((F_CN_attach p (m.1 p 0) (x_wS (x_wA m (p + 5) (m.1 p 0).toNatClampNeg (vp_nar .boolean 0)) p 0 (((x_wA m (p + 5) (m.1 p 0).toNatClampNeg (vp_nar .boolean 0)).1 p 0) + 1))).bind fun r24 => some r24) else none)
theorem c_CN_addComing {G : x_G} {ex : Bool} {r : x_m} {p : Nat} (hp : x_CN p)  {m : x_m} (h : F_CN_addComing p m = some r) : x_R G M_CN_addComing (x_rd 2) ex [.ref p] x_np (x_hp m) (x_pv r) := by
  unfold F_CN_addComing at h
  show x_W G M_CN_addComing (x_rd 2) (x_Q G (x_rd 2) ex (x_pv r)) ex x_np (x_hp m) 0 0 [(0, .ref p)] [] 0
  refine x_aload_n d_CN_addComing_0 rfl rfl ?_
  refine x_gI d_CN_addComing_1 (f_CN_44 rfl) (sh_CN hp) (hp_CN hp) rfl ?_
  refine x_istore_n (lv2 := [(0, .ref p), (1, .int (m.1 p 0))]) d_CN_addComing_4 rfl (by decide) rfl ?_
  refine x_aload_n d_CN_addComing_5 rfl rfl ?_
  refine x_gC d_CN_addComing_6 (f_CN_28 rfl) (sh_CN hp) (hp_CN hp) rfl ?_
  refine x_iload_n d_CN_addComing_9 rfl rfl ?_
  refine x_iconst (v := 0) d_CN_addComing_10 (by decide) ?_
  obtain ⟨g_11, h⟩ := x_gd h
  refine x_sZ d_CN_addComing_11 rfl (sa_CN_isNegated hp) (ha_CN_isNegated hp) g_11 ?_
  refine x_aload_n d_CN_addComing_12 rfl rfl ?_
  refine x_dup d_CN_addComing_13 rfl ?_
  refine x_gI d_CN_addComing_14 (f_CN_44 rfl) (sh_CN hp) (hp_CN hp) rfl ?_
  refine x_iconst (v := 1) d_CN_addComing_17 (by decide) ?_
  refine x_iadd d_CN_addComing_18 ?_
  refine x_pI d_CN_addComing_19 (f_CN_44 rfl) tb_CN rfl (sh_CN hp) (hp_CN hp) rfl ⟨rfl, rfl⟩ ?_
  refine x_aload_n d_CN_addComing_22 rfl rfl ?_
  refine x_iload_n d_CN_addComing_23 rfl rfl ?_
  obtain ⟨r24, e24, h⟩ := x_bd h
  refine x_cVv (M2 := M_CN_attach) (As := [.int (m.1 p 0)]) (st := []) d_CN_addComing_24 w_615 k_CN_attach (c_CN_attach hp e24) rfl (sh_CN hp) (hp_CN hp) rfl ⟨Nat.le_of_ble_eq_true rfl, Nat.le_of_ble_eq_true rfl⟩ (Nat.le_of_ble_eq_true rfl) (Nat.le_of_ble_eq_true rfl) rfl ?_
  cases h
  exact x_rv d_CN_addComing_27 rfl
def F_CN_endLine (p : Nat)  (m : x_m) : Option (Int32 × x_m) := (if x_ix (m.1 p 1) 41 = true then (if x_ix (m.1 p 1) 41 = true then ((F_CN_join p 0 (m.2.1 (p + 7) (m.1 p 1).toNatClampNeg) (m.2.1 (p + 8) (m.1 p 1).toNatClampNeg) m).bind fun r20 => some (r20.1, r20.2)) else none) else none)
theorem c_CN_endLine {G : x_G} {ex : Bool} {r : Int32 × x_m} {p : Nat} (hp : x_CN p)  {m : x_m} (h : F_CN_endLine p m = some r) : x_R G M_CN_endLine (x_rd 1) ex [.ref p] x_np (x_hp m) (x_pi r) := by
  unfold F_CN_endLine at h
  show x_W G M_CN_endLine (x_rd 1) (x_Q G (x_rd 1) ex (x_pi r)) ex x_np (x_hp m) 0 0 [(0, .ref p)] [] 0
  refine x_aload_n d_CN_endLine_0 rfl rfl ?_
  refine x_iconst (v := 0) d_CN_endLine_1 (by decide) ?_
  refine x_aload_n d_CN_endLine_2 rfl rfl ?_
  refine x_gC d_CN_endLine_3 (f_CN_34 rfl) (sh_CN hp) (hp_CN hp) rfl ?_
  refine x_aload_n d_CN_endLine_6 rfl rfl ?_
  refine x_gI d_CN_endLine_7 (f_CN_51 rfl) (sh_CN hp) (hp_CN hp) rfl ?_
  obtain ⟨g_10, h⟩ := x_gd h
  refine x_lI d_CN_endLine_10 rfl (sa_CN_beforeOr hp) (ha_CN_beforeOr hp) g_10 ?_
  refine x_aload_n d_CN_endLine_11 rfl rfl ?_
  refine x_gC d_CN_endLine_12 (f_CN_37 rfl) (sh_CN hp) (hp_CN hp) rfl ?_
  refine x_aload_n d_CN_endLine_15 rfl rfl ?_
  refine x_gI d_CN_endLine_16 (f_CN_51 rfl) (sh_CN hp) (hp_CN hp) rfl ?_
  obtain ⟨g_19, h⟩ := x_gd h
  refine x_lI d_CN_endLine_19 rfl (sa_CN_beforeAnd hp) (ha_CN_beforeAnd hp) g_19 ?_
  obtain ⟨r20, e20, h⟩ := x_bd h
  refine x_cVi (M2 := M_CN_join) (As := [.int 0, .int (m.2.1 (p + 7) (m.1 p 1).toNatClampNeg), .int (m.2.1 (p + 8) (m.1 p 1).toNatClampNeg)]) (st := []) d_CN_endLine_20 w_619 k_CN_join (c_CN_join hp e20) rfl (sh_CN hp) (hp_CN hp) rfl ⟨Nat.le_of_ble_eq_true rfl, Nat.le_of_ble_eq_true rfl⟩ (Nat.le_of_ble_eq_true rfl) (Nat.le_of_ble_eq_true rfl) rfl ?_
  cases h
  exact x_ri d_CN_endLine_23 rfl rfl
def F_CN_finish (p : Nat)  (m : x_m) : Option (x_m) := ((F_CN_endLine p m).bind fun r1 => some r1.2)
theorem c_CN_finish {G : x_G} {ex : Bool} {r : x_m} {p : Nat} (hp : x_CN p)  {m : x_m} (h : F_CN_finish p m = some r) : x_R G M_CN_finish (x_rd 2) ex [.ref p] x_np (x_hp m) (x_pv r) := by
  unfold F_CN_finish at h
  show x_W G M_CN_finish (x_rd 2) (x_Q G (x_rd 2) ex (x_pv r)) ex x_np (x_hp m) 0 0 [(0, .ref p)] [] 0
  refine x_aload_n d_CN_finish_0 rfl rfl ?_
  obtain ⟨r1, e1, h⟩ := x_bd h
  refine x_cVi (M2 := M_CN_endLine) (As := []) (st := []) d_CN_finish_1 w_631 k_CN_endLine (c_CN_endLine hp e1) rfl (sh_CN hp) (hp_CN hp) rfl ⟨Nat.le_of_ble_eq_true rfl, Nat.le_of_ble_eq_true rfl⟩ (Nat.le_of_ble_eq_true rfl) (Nat.le_of_ble_eq_true rfl) rfl ?_
  refine x_pop d_CN_finish_4 rfl ?_
  cases h
  exact x_rv d_CN_finish_5 rfl
def B_CN_negateNext_25 (p : Nat)  (s0 : Int32) (s1 : Int32) (m : x_m) : Option (x_m) := (if x_ix s1 41 = true then some (x_wA m (p + 9) s1.toNatClampNeg (vp_nar .boolean s0)) else none)
theorem b_CN_negateNext_25 {G : x_G} {ex : Bool} {r : x_m} {p : Nat} (hp : x_CN p)  {s0 : Int32} {s1 : Int32} {m : x_m} (h : B_CN_negateNext_25 p s0 s1 m = some r) : x_W G M_CN_negateNext (x_rd 0) (x_Q G (x_rd 0) ex (x_pv r)) ex x_np (x_hp m) 0 0 [] [.int s0, .int s1, .ref (p + 9)] 25 := by
  unfold B_CN_negateNext_25 at h
  obtain ⟨g_25, h⟩ := x_gd h
  refine x_sZ d_CN_negateNext_25 rfl (sa_CN_isNotAhead hp) (ha_CN_isNotAhead hp) g_25 ?_
  cases h
  exact x_rv d_CN_negateNext_26 rfl
def F_CN_negateNext (p : Nat)  (m : x_m) : Option (x_m) := (if x_ix (m.1 p 1) 41 = true then (if (m.2.1 (p + 9) (m.1 p 1).toNatClampNeg) = 0 then B_CN_negateNext_25 p 1 (m.1 p 1) m else B_CN_negateNext_25 p 0 (m.1 p 1) m) else none)
theorem c_CN_negateNext {G : x_G} {ex : Bool} {r : x_m} {p : Nat} (hp : x_CN p)  {m : x_m} (h : F_CN_negateNext p m = some r) : x_R G M_CN_negateNext (x_rd 0) ex [.ref p] x_np (x_hp m) (x_pv r) := by
  unfold F_CN_negateNext at h
  show x_W G M_CN_negateNext (x_rd 0) (x_Q G (x_rd 0) ex (x_pv r)) ex x_np (x_hp m) 0 0 [(0, .ref p)] [] 0
  refine x_aload_n d_CN_negateNext_0 rfl rfl ?_
  refine x_gC d_CN_negateNext_1 (f_CN_40 rfl) (sh_CN hp) (hp_CN hp) rfl ?_
  refine x_aload_n d_CN_negateNext_4 rfl rfl ?_
  refine x_gI d_CN_negateNext_5 (f_CN_51 rfl) (sh_CN hp) (hp_CN hp) rfl ?_
  refine x_aload_n d_CN_negateNext_8 rfl rfl ?_
  refine x_gC d_CN_negateNext_9 (f_CN_40 rfl) (sh_CN hp) (hp_CN hp) rfl ?_
  refine x_aload_n d_CN_negateNext_12 rfl rfl ?_
  refine x_gI d_CN_negateNext_13 (f_CN_51 rfl) (sh_CN hp) (hp_CN hp) rfl ?_
  obtain ⟨g_16, h⟩ := x_gd h
  refine x_lZ d_CN_negateNext_16 rfl (sa_CN_isNotAhead hp) (ha_CN_isNotAhead hp) g_16 ?_
  refine x_if_ne (tgt := 24) d_CN_negateNext_17 (by decide) (fun c_ => ?_) (fun c_ => ?_)
  · replace h := x_ie h c_
    refine x_iconst (v := 0) d_CN_negateNext_24 (by decide) ?_
    refine x_sbk [] (lv2 := []) rfl ?_; exact b_CN_negateNext_25 hp h
  · replace h := x_it h c_
    refine x_iconst (v := 1) d_CN_negateNext_20 (by decide) ?_
    refine x_goto (tgt := 25) d_CN_negateNext_21 (by decide) ?_
    refine x_sbk [] (lv2 := []) rfl ?_; exact b_CN_negateNext_25 hp h
def F_CN_clearLine (p : Nat)  (m : x_m) : Option (x_m) := (if x_ix (m.1 p 1) 41 = true then (if x_ix ((x_wA m (p + 7) (m.1 p 1).toNatClampNeg ((-1))).1 p 1) 41 = true then (if x_ix ((x_wA (x_wA m (p + 7) (m.1 p 1).toNatClampNeg ((-1))) (p + 8) ((x_wA m (p + 7) (m.1 p 1).toNatClampNeg ((-1))).1 p 1).toNatClampNeg ((-1))).1 p 1) 41 = true then some (x_wA (x_wA (x_wA m (p + 7) (m.1 p 1).toNatClampNeg ((-1))) (p + 8) ((x_wA m (p + 7) (m.1 p 1).toNatClampNeg ((-1))).1 p 1).toNatClampNeg ((-1))) (p + 9) ((x_wA (x_wA m (p + 7) (m.1 p 1).toNatClampNeg ((-1))) (p + 8) ((x_wA m (p + 7) (m.1 p 1).toNatClampNeg ((-1))).1 p 1).toNatClampNeg ((-1))).1 p 1).toNatClampNeg (vp_nar .boolean 0)) else none) else none) else none)
theorem c_CN_clearLine {G : x_G} {ex : Bool} {r : x_m} {p : Nat} (hp : x_CN p)  {m : x_m} (h : F_CN_clearLine p m = some r) : x_R G M_CN_clearLine (x_rd 0) ex [.ref p] x_np (x_hp m) (x_pv r) := by
  unfold F_CN_clearLine at h
  show x_W G M_CN_clearLine (x_rd 0) (x_Q G (x_rd 0) ex (x_pv r)) ex x_np (x_hp m) 0 0 [(0, .ref p)] [] 0
  refine x_aload_n d_CN_clearLine_0 rfl rfl ?_
  refine x_gC d_CN_clearLine_1 (f_CN_34 rfl) (sh_CN hp) (hp_CN hp) rfl ?_
  refine x_aload_n d_CN_clearLine_4 rfl rfl ?_
  refine x_gI d_CN_clearLine_5 (f_CN_51 rfl) (sh_CN hp) (hp_CN hp) rfl ?_
  refine x_iconst (v := (-1)) d_CN_clearLine_8 (by decide) ?_
  obtain ⟨g_9, h⟩ := x_gd h
  refine x_sI d_CN_clearLine_9 rfl (sa_CN_beforeOr hp) (ha_CN_beforeOr hp) g_9 ?_
  refine x_aload_n d_CN_clearLine_10 rfl rfl ?_
  refine x_gC d_CN_clearLine_11 (f_CN_37 rfl) (sh_CN hp) (hp_CN hp) rfl ?_
  refine x_aload_n d_CN_clearLine_14 rfl rfl ?_
  refine x_gI d_CN_clearLine_15 (f_CN_51 rfl) (sh_CN hp) (hp_CN hp) rfl ?_
  refine x_iconst (v := (-1)) d_CN_clearLine_18 (by decide) ?_
  obtain ⟨g_19, h⟩ := x_gd h
  refine x_sI d_CN_clearLine_19 rfl (sa_CN_beforeAnd hp) (ha_CN_beforeAnd hp) g_19 ?_
  refine x_aload_n d_CN_clearLine_20 rfl rfl ?_
  refine x_gC d_CN_clearLine_21 (f_CN_40 rfl) (sh_CN hp) (hp_CN hp) rfl ?_
  refine x_aload_n d_CN_clearLine_24 rfl rfl ?_
  refine x_gI d_CN_clearLine_25 (f_CN_51 rfl) (sh_CN hp) (hp_CN hp) rfl ?_
  refine x_iconst (v := 0) d_CN_clearLine_28 (by decide) ?_
  obtain ⟨g_29, h⟩ := x_gd h
  refine x_sZ d_CN_clearLine_29 rfl (sa_CN_isNotAhead hp) (ha_CN_isNotAhead hp) g_29 ?_
  cases h
  exact x_rv d_CN_clearLine_30 rfl
def F_CN_openBracket (p : Nat)  (m : x_m) : Option (Int32 × x_m) := (if (m.1 p 1) < 40 then ((F_CN_clearLine p (x_wS m p 1 ((m.1 p 1) + 1))).bind fun r22 => some (1, r22)) else some (0, m))
theorem c_CN_openBracket {G : x_G} {ex : Bool} {r : Int32 × x_m} {p : Nat} (hp : x_CN p)  {m : x_m} (h : F_CN_openBracket p m = some r) : x_R G M_CN_openBracket (x_rd 1) ex [.ref p] x_np (x_hp m) (x_pi r) := by
  unfold F_CN_openBracket at h
  show x_W G M_CN_openBracket (x_rd 1) (x_Q G (x_rd 1) ex (x_pi r)) ex x_np (x_hp m) 0 0 [(0, .ref p)] [] 0
  refine x_aload_n d_CN_openBracket_0 rfl rfl ?_
  refine x_gI d_CN_openBracket_1 (f_CN_51 rfl) (sh_CN hp) (hp_CN hp) rfl ?_
  refine x_bipush (v := 40) d_CN_openBracket_4 (by decide) ?_
  refine x_icmp_lt (tgt := 11) d_CN_openBracket_6 (by decide) (fun c_ => ?_) (fun c_ => ?_)
  · replace h := x_it h c_
    refine x_aload_n d_CN_openBracket_11 rfl rfl ?_
    refine x_dup d_CN_openBracket_12 rfl ?_
    refine x_gI d_CN_openBracket_13 (f_CN_51 rfl) (sh_CN hp) (hp_CN hp) rfl ?_
    refine x_iconst (v := 1) d_CN_openBracket_16 (by decide) ?_
    refine x_iadd d_CN_openBracket_17 ?_
    refine x_pI d_CN_openBracket_18 (f_CN_51 rfl) tb_CN rfl (sh_CN hp) (hp_CN hp) rfl ⟨rfl, rfl⟩ ?_
    refine x_aload_n d_CN_openBracket_21 rfl rfl ?_
    obtain ⟨r22, e22, h⟩ := x_bd h
    refine x_cVv (M2 := M_CN_clearLine) (As := []) (st := []) d_CN_openBracket_22 w_382 k_CN_clearLine (c_CN_clearLine hp e22) rfl (sh_CN hp) (hp_CN hp) rfl ⟨Nat.le_of_ble_eq_true rfl, Nat.le_of_ble_eq_true rfl⟩ (Nat.le_of_ble_eq_true rfl) (Nat.le_of_ble_eq_true rfl) rfl ?_
    refine x_iconst (v := 1) d_CN_openBracket_25 (by decide) ?_
    cases h
    exact x_ri d_CN_openBracket_26 rfl rfl
  · replace h := x_ie h c_
    refine x_iconst (v := 0) d_CN_openBracket_9 (by decide) ?_
    cases h
    exact x_ri d_CN_openBracket_10 rfl rfl
def F_CN_startAlternative (p : Nat)  (m : x_m) : Option (x_m) := ((F_CN_endLine p m).bind fun r9 => (if x_ix (m.1 p 1) 41 = true then (if x_ix ((x_wA r9.2 (p + 7) (m.1 p 1).toNatClampNeg r9.1).1 p 1) 41 = true then some (x_wA (x_wA r9.2 (p + 7) (m.1 p 1).toNatClampNeg r9.1) (p + 8) ((x_wA r9.2 (p + 7) (m.1 p 1).toNatClampNeg r9.1).1 p 1).toNatClampNeg ((-1))) else none) else none))
theorem c_CN_startAlternative {G : x_G} {ex : Bool} {r : x_m} {p : Nat} (hp : x_CN p)  {m : x_m} (h : F_CN_startAlternative p m = some r) : x_R G M_CN_startAlternative (x_rd 2) ex [.ref p] x_np (x_hp m) (x_pv r) := by
  unfold F_CN_startAlternative at h
  show x_W G M_CN_startAlternative (x_rd 2) (x_Q G (x_rd 2) ex (x_pv r)) ex x_np (x_hp m) 0 0 [(0, .ref p)] [] 0
  refine x_aload_n d_CN_startAlternative_0 rfl rfl ?_
  refine x_gC d_CN_startAlternative_1 (f_CN_34 rfl) (sh_CN hp) (hp_CN hp) rfl ?_
  refine x_aload_n d_CN_startAlternative_4 rfl rfl ?_
  refine x_gI d_CN_startAlternative_5 (f_CN_51 rfl) (sh_CN hp) (hp_CN hp) rfl ?_
  refine x_aload_n d_CN_startAlternative_8 rfl rfl ?_
  obtain ⟨r9, e9, h⟩ := x_bd h
  refine x_cVi (M2 := M_CN_endLine) (As := []) (st := [.int (m.1 p 1), .ref (p + 7)]) d_CN_startAlternative_9 w_631 k_CN_endLine (c_CN_endLine hp e9) rfl (sh_CN hp) (hp_CN hp) rfl ⟨Nat.le_of_ble_eq_true rfl, Nat.le_of_ble_eq_true rfl⟩ (Nat.le_of_ble_eq_true rfl) (Nat.le_of_ble_eq_true rfl) rfl ?_
  obtain ⟨g_12, h⟩ := x_gd h
  refine x_sI d_CN_startAlternative_12 rfl (sa_CN_beforeOr hp) (ha_CN_beforeOr hp) g_12 ?_
  refine x_aload_n d_CN_startAlternative_13 rfl rfl ?_
  refine x_gC d_CN_startAlternative_14 (f_CN_37 rfl) (sh_CN hp) (hp_CN hp) rfl ?_
  refine x_aload_n d_CN_startAlternative_17 rfl rfl ?_
  refine x_gI d_CN_startAlternative_18 (f_CN_51 rfl) (sh_CN hp) (hp_CN hp) rfl ?_
  refine x_iconst (v := (-1)) d_CN_startAlternative_21 (by decide) ?_
  obtain ⟨g_22, h⟩ := x_gd h
  refine x_sI d_CN_startAlternative_22 rfl (sa_CN_beforeAnd hp) (ha_CN_beforeAnd hp) g_22 ?_
  cases h
  exact x_rv d_CN_startAlternative_23 rfl
def B_CN_closeBracket_27 (p : Nat)   (m : x_m) : Option (x_m) := some m
theorem b_CN_closeBracket_27 {G : x_G} {ex : Bool} {r : x_m} {p : Nat} (hp : x_CN p)   {m : x_m} (h : B_CN_closeBracket_27 p m = some r) : x_W G M_CN_closeBracket (x_rd 2) (x_Q G (x_rd 2) ex (x_pv r)) ex x_np (x_hp m) 0 0 [] [] 27 := by
  unfold B_CN_closeBracket_27 at h
  cases h
  exact x_rv d_CN_closeBracket_27 rfl
def F_CN_closeBracket (p : Nat)  (m : x_m) : Option (x_m) := (if (m.1 p 1) ≤ 0 then B_CN_closeBracket_27 p m else ((F_CN_endLine p m).bind fun r8 => ((F_CN_attach p r8.1 (x_wS r8.2 p 1 ((r8.2.1 p 1) - 1))).bind fun r24 => B_CN_closeBracket_27 p r24)))
theorem c_CN_closeBracket {G : x_G} {ex : Bool} {r : x_m} {p : Nat} (hp : x_CN p)  {m : x_m} (h : F_CN_closeBracket p m = some r) : x_R G M_CN_closeBracket (x_rd 2) ex [.ref p] x_np (x_hp m) (x_pv r) := by
  unfold F_CN_closeBracket at h
  show x_W G M_CN_closeBracket (x_rd 2) (x_Q G (x_rd 2) ex (x_pv r)) ex x_np (x_hp m) 0 0 [(0, .ref p)] [] 0
  refine x_aload_n d_CN_closeBracket_0 rfl rfl ?_
  refine x_gI d_CN_closeBracket_1 (f_CN_51 rfl) (sh_CN hp) (hp_CN hp) rfl ?_
  refine x_if_le (tgt := 27) d_CN_closeBracket_4 (by decide) (fun c_ => ?_) (fun c_ => ?_)
  · replace h := x_it h c_
    refine x_sbk [] (lv2 := []) rfl ?_; exact b_CN_closeBracket_27 hp h
  · replace h := x_ie h c_
    refine x_aload_n d_CN_closeBracket_7 rfl rfl ?_
    obtain ⟨r8, e8, h⟩ := x_bd h
    refine x_cVi (M2 := M_CN_endLine) (As := []) (st := []) d_CN_closeBracket_8 w_631 k_CN_endLine (c_CN_endLine hp e8) rfl (sh_CN hp) (hp_CN hp) rfl ⟨Nat.le_of_ble_eq_true rfl, Nat.le_of_ble_eq_true rfl⟩ (Nat.le_of_ble_eq_true rfl) (Nat.le_of_ble_eq_true rfl) rfl ?_
    refine x_istore_n (lv2 := [(0, .ref p), (1, .int r8.1)]) d_CN_closeBracket_11 rfl (by decide) rfl ?_
    refine x_aload_n d_CN_closeBracket_12 rfl rfl ?_
    refine x_dup d_CN_closeBracket_13 rfl ?_
    refine x_gI d_CN_closeBracket_14 (f_CN_51 rfl) (sh_CN hp) (hp_CN hp) rfl ?_
    refine x_iconst (v := 1) d_CN_closeBracket_17 (by decide) ?_
    refine x_isub d_CN_closeBracket_18 ?_
    refine x_pI d_CN_closeBracket_19 (f_CN_51 rfl) tb_CN rfl (sh_CN hp) (hp_CN hp) rfl ⟨rfl, rfl⟩ ?_
    refine x_aload_n d_CN_closeBracket_22 rfl rfl ?_
    refine x_iload_n d_CN_closeBracket_23 rfl rfl ?_
    obtain ⟨r24, e24, h⟩ := x_bd h
    refine x_cVv (M2 := M_CN_attach) (As := [.int r8.1]) (st := []) d_CN_closeBracket_24 w_615 k_CN_attach (c_CN_attach hp e24) rfl (sh_CN hp) (hp_CN hp) rfl ⟨Nat.le_of_ble_eq_true rfl, Nat.le_of_ble_eq_true rfl⟩ (Nat.le_of_ble_eq_true rfl) (Nat.le_of_ble_eq_true rfl) rfl ?_
    refine x_sbk [] (lv2 := []) rfl ?_; exact b_CN_closeBracket_27 hp h
def F_CN_coming (p : Nat)  (m : x_m) : Option (Nat × x_m) := (if x_ix (m.1 p 0) 60 = true then some (p + 10 + 2 * (m.1 p 0).toNatClampNeg, m) else none)
theorem c_CN_coming {G : x_G} {ex : Bool} {r : Nat × x_m} {p : Nat} (hp : x_CN p)  {m : x_m} (h : F_CN_coming p m = some r) : x_R G M_CN_coming (x_rd 0) ex [.ref p] x_np (x_hp m) (x_pr r) := by
  unfold F_CN_coming at h
  show x_W G M_CN_coming (x_rd 0) (x_Q G (x_rd 0) ex (x_pr r)) ex x_np (x_hp m) 0 0 [(0, .ref p)] [] 0
  refine x_aload_n d_CN_coming_0 rfl rfl ?_
  refine x_gC d_CN_coming_1 (f_CN_13 rfl) (sh_CN hp) (hp_CN hp) rfl ?_
  refine x_aload_n d_CN_coming_4 rfl rfl ?_
  refine x_gI d_CN_coming_5 (f_CN_44 rfl) (sh_CN hp) (hp_CN hp) rfl ?_
  obtain ⟨g_8, h⟩ := x_gd h
  refine x_lR (b := p + 10 + 2 * (m.1 p 0).toNatClampNeg) d_CN_coming_8 rfl (sa_CN_comparisons hp) (ha_CN_comparisons hp) g_8 (if_pos (x_ix_lt g_8)) ?_
  cases h
  exact x_rr d_CN_coming_9 rfl (Or.inl ⟨_, rfl⟩)
def B_CN_isFull_14 (p : Nat)  (s0 : Int32) (m : x_m) : Option (Int32 × x_m) := (if x_b1 s0 = true then some (s0, m) else none)
theorem b_CN_isFull_14 {G : x_G} {ex : Bool} {r : Int32 × x_m} {p : Nat} (hp : x_CN p)  {s0 : Int32} {m : x_m} (h : B_CN_isFull_14 p s0 m = some r) : x_W G M_CN_isFull (x_rd 0) (x_Q G (x_rd 0) ex (x_pi r)) ex x_np (x_hp m) 0 0 [] [.int s0] 14 := by
  unfold B_CN_isFull_14 at h
  obtain ⟨g_14, h⟩ := x_gd h
  cases h
  exact x_ri d_CN_isFull_14 rfl (x_b1_ok g_14).1
def F_CN_isFull (p : Nat)  (m : x_m) : Option (Int32 × x_m) := (if (m.1 p 0) < 60 then B_CN_isFull_14 p 0 m else B_CN_isFull_14 p 1 m)
theorem c_CN_isFull {G : x_G} {ex : Bool} {r : Int32 × x_m} {p : Nat} (hp : x_CN p)  {m : x_m} (h : F_CN_isFull p m = some r) : x_R G M_CN_isFull (x_rd 0) ex [.ref p] x_np (x_hp m) (x_pi r) := by
  unfold F_CN_isFull at h
  show x_W G M_CN_isFull (x_rd 0) (x_Q G (x_rd 0) ex (x_pi r)) ex x_np (x_hp m) 0 0 [(0, .ref p)] [] 0
  refine x_aload_n d_CN_isFull_0 rfl rfl ?_
  refine x_gI d_CN_isFull_1 (f_CN_44 rfl) (sh_CN hp) (hp_CN hp) rfl ?_
  refine x_bipush (v := 60) d_CN_isFull_4 (by decide) ?_
  refine x_icmp_lt (tgt := 13) d_CN_isFull_6 (by decide) (fun c_ => ?_) (fun c_ => ?_)
  · replace h := x_it h c_
    refine x_iconst (v := 0) d_CN_isFull_13 (by decide) ?_
    refine x_sbk [] (lv2 := []) rfl ?_; exact b_CN_isFull_14 hp h
  · replace h := x_ie h c_
    refine x_iconst (v := 1) d_CN_isFull_9 (by decide) ?_
    refine x_goto (tgt := 14) d_CN_isFull_10 (by decide) ?_
    refine x_sbk [] (lv2 := []) rfl ?_; exact b_CN_isFull_14 hp h
def F_CP_restart (p : Nat) (a1 : Int32) (m : x_m) : Option (x_m) := some (x_wS (x_wS (x_wS m p 0 a1) p 1 0) p 4 0)
theorem c_CP_restart {G : x_G} {ex : Bool} {r : x_m} {p : Nat} (hp : x_CP p) {a1 : Int32} {m : x_m} (h : F_CP_restart p a1 m = some r) : x_R G M_CP_restart (x_rd 0) ex [.ref p, .int a1] x_np (x_hp m) (x_pv r) := by
  unfold F_CP_restart at h
  show x_W G M_CP_restart (x_rd 0) (x_Q G (x_rd 0) ex (x_pv r)) ex x_np (x_hp m) 0 0 [(0, .ref p), (1, .int a1)] [] 0
  refine x_aload_n d_CP_restart_0 rfl rfl ?_
  refine x_iload_n d_CP_restart_1 rfl rfl ?_
  refine x_pI d_CP_restart_2 (f_CP_13 rfl) tb_CP rfl (sh_CP hp) (hp_CP hp) rfl ⟨rfl, rfl⟩ ?_
  refine x_aload_n d_CP_restart_5 rfl rfl ?_
  refine x_iconst (v := 0) d_CP_restart_6 (by decide) ?_
  refine x_pI d_CP_restart_7 (f_CP_17 rfl) tb_CP rfl (sh_CP hp) (hp_CP hp) rfl ⟨rfl, rfl⟩ ?_
  refine x_aload_n d_CP_restart_10 rfl rfl ?_
  refine x_iconst (v := 0) d_CP_restart_11 (by decide) ?_
  refine x_pI d_CP_restart_12 (f_CP_21 rfl) tb_CP rfl (sh_CP hp) (hp_CP hp) rfl ⟨rfl, rfl⟩ ?_
  cases h
  exact x_rv d_CP_restart_15 rfl
def F_CP_becomeRange (p : Nat) (a1 : Int32) (a2 : Int32) (m : x_m) : Option (x_m) := some (x_wS (x_wS m p 2 a1) p 3 a2)
theorem c_CP_becomeRange {G : x_G} {ex : Bool} {r : x_m} {p : Nat} (hp : x_CP p) {a1 : Int32} {a2 : Int32} {m : x_m} (h : F_CP_becomeRange p a1 a2 m = some r) : x_R G M_CP_becomeRange (x_rd 0) ex [.ref p, .int a1, .int a2] x_np (x_hp m) (x_pv r) := by
  unfold F_CP_becomeRange at h
  show x_W G M_CP_becomeRange (x_rd 0) (x_Q G (x_rd 0) ex (x_pv r)) ex x_np (x_hp m) 0 0 [(0, .ref p), (1, .int a1), (2, .int a2)] [] 0
  refine x_aload_n d_CP_becomeRange_0 rfl rfl ?_
  refine x_iload_n d_CP_becomeRange_1 rfl rfl ?_
  refine x_pI d_CP_becomeRange_2 (f_CP_24 rfl) tb_CP rfl (sh_CP hp) (hp_CP hp) rfl ⟨rfl, rfl⟩ ?_
  refine x_aload_n d_CP_becomeRange_5 rfl rfl ?_
  refine x_iload_n d_CP_becomeRange_6 rfl rfl ?_
  refine x_pI d_CP_becomeRange_7 (f_CP_27 rfl) tb_CP rfl (sh_CP hp) (hp_CP hp) rfl ⟨rfl, rfl⟩ ?_
  cases h
  exact x_rv d_CP_becomeRange_10 rfl
def F_CP_addToList (p : Nat) (a1 : Int32) (m : x_m) : Option (Int32 × x_m) := (if (m.1 p 4) < 40 then (if x_ix (m.1 p 4) 40 = true then some (1, x_wS (x_wA m (p + 1) (m.1 p 4).toNatClampNeg a1) p 4 (((x_wA m (p + 1) (m.1 p 4).toNatClampNeg a1).1 p 4) + 1)) else none) else some (0, m))
theorem c_CP_addToList {G : x_G} {ex : Bool} {r : Int32 × x_m} {p : Nat} (hp : x_CP p) {a1 : Int32} {m : x_m} (h : F_CP_addToList p a1 m = some r) : x_R G M_CP_addToList (x_rd 0) ex [.ref p, .int a1] x_np (x_hp m) (x_pi r) := by
  unfold F_CP_addToList at h
  show x_W G M_CP_addToList (x_rd 0) (x_Q G (x_rd 0) ex (x_pi r)) ex x_np (x_hp m) 0 0 [(0, .ref p), (1, .int a1)] [] 0
  refine x_aload_n d_CP_addToList_0 rfl rfl ?_
  refine x_gI d_CP_addToList_1 (f_CP_21 rfl) (sh_CP hp) (hp_CP hp) rfl ?_
  refine x_bipush (v := 40) d_CP_addToList_4 (by decide) ?_
  refine x_icmp_lt (tgt := 11) d_CP_addToList_6 (by decide) (fun c_ => ?_) (fun c_ => ?_)
  · replace h := x_it h c_
    refine x_aload_n d_CP_addToList_11 rfl rfl ?_
    refine x_gC d_CP_addToList_12 (f_CP_9 rfl) (sh_CP hp) (hp_CP hp) rfl ?_
    refine x_aload_n d_CP_addToList_15 rfl rfl ?_
    refine x_gI d_CP_addToList_16 (f_CP_21 rfl) (sh_CP hp) (hp_CP hp) rfl ?_
    refine x_iload_n d_CP_addToList_19 rfl rfl ?_
    obtain ⟨g_20, h⟩ := x_gd h
    refine x_sI d_CP_addToList_20 rfl (sa_CP_list hp) (ha_CP_list hp) g_20 ?_
    refine x_aload_n d_CP_addToList_21 rfl rfl ?_
    refine x_dup d_CP_addToList_22 rfl ?_
    refine x_gI d_CP_addToList_23 (f_CP_21 rfl) (sh_CP hp) (hp_CP hp) rfl ?_
    refine x_iconst (v := 1) d_CP_addToList_26 (by decide) ?_
    refine x_iadd d_CP_addToList_27 ?_
    refine x_pI d_CP_addToList_28 (f_CP_21 rfl) tb_CP rfl (sh_CP hp) (hp_CP hp) rfl ⟨rfl, rfl⟩ ?_
    refine x_iconst (v := 1) d_CP_addToList_31 (by decide) ?_
    cases h
    exact x_ri d_CP_addToList_32 rfl rfl
  · replace h := x_ie h c_
    refine x_iconst (v := 0) d_CP_addToList_9 (by decide) ?_
    cases h
    exact x_ri d_CP_addToList_10 rfl rfl
