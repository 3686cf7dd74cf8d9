def M_MD_among : x_M := (⟨"QuestionReaderModel", "among", "(II)I"⟩, prog_14_method_20_code, 4, some (.int), [])
theorem d_MD_among_0 : decode M_MD_among.2.1 0 = .ok (.iconst 0, 1) := by decide +kernel
theorem d_MD_among_1 : decode M_MD_among.2.1 1 = .ok (.istore_n 3, 1) := by decide +kernel
theorem d_MD_among_2 : decode M_MD_among.2.1 2 = .ok (.iload_n 3, 1) := by decide +kernel
theorem d_MD_among_3 : decode M_MD_among.2.1 3 = .ok (.iload_n 2, 1) := by decide +kernel
theorem d_MD_among_4 : decode M_MD_among.2.1 4 = .ok (.if_icmp .ge 21, 3) := by decide +kernel
theorem d_MD_among_7 : decode M_MD_among.2.1 7 = .ok (.aload_n 0, 1) := by decide +kernel
theorem d_MD_among_8 : decode M_MD_among.2.1 8 = .ok (.iload_n 1, 1) := by decide +kernel
theorem d_MD_among_9 : decode M_MD_among.2.1 9 = .ok (.iload_n 3, 1) := by decide +kernel
theorem d_MD_among_10 : decode M_MD_among.2.1 10 = .ok (.iadd, 1) := by decide +kernel
theorem d_MD_among_11 : decode M_MD_among.2.1 11 = .ok (.invokevirtual 143, 3) := by decide +kernel
theorem d_MD_among_14 : decode M_MD_among.2.1 14 = .ok (.ifCond .eq 5, 3) := by decide +kernel
theorem d_MD_among_17 : decode M_MD_among.2.1 17 = .ok (.iload_n 3, 1) := by decide +kernel
theorem d_MD_among_18 : decode M_MD_among.2.1 18 = .ok (.ireturn, 1) := by decide +kernel
theorem d_MD_among_19 : decode M_MD_among.2.1 19 = .ok (.iinc 3 1, 3) := by decide +kernel
theorem d_MD_among_22 : decode M_MD_among.2.1 22 = .ok (.goto (-20), 3) := by decide +kernel
theorem d_MD_among_25 : decode M_MD_among.2.1 25 = .ok (.iconst (-1), 1) := by decide +kernel
theorem d_MD_among_26 : decode M_MD_among.2.1 26 = .ok (.ireturn, 1) := by decide +kernel
theorem k_MD_among : x_kV M_MD_among "QuestionReaderModel" 2 := ⟨⟨by decide, Or.inl ⟨w_1350, rfl⟩⟩, w_1349, ws_49, ⟨by decide, by decide⟩, by decide +kernel⟩
def M_MD_isSign : x_M := (⟨"QuestionReaderModel", "isSign", "(I)Z"⟩, prog_14_method_15_code, 2, some (.boolean), [])
theorem d_MD_isSign_0 : decode M_MD_isSign.2.1 0 = .ok (.aload_n 0, 1) := by decide +kernel
theorem d_MD_isSign_1 : decode M_MD_isSign.2.1 1 = .ok (.getfield 86, 3) := by decide +kernel
theorem d_MD_isSign_4 : decode M_MD_isSign.2.1 4 = .ok (.iconst 3, 1) := by decide +kernel
theorem d_MD_isSign_5 : decode M_MD_isSign.2.1 5 = .ok (.if_icmp .ne 15, 3) := by decide +kernel
theorem d_MD_isSign_8 : decode M_MD_isSign.2.1 8 = .ok (.aload_n 0, 1) := by decide +kernel
theorem d_MD_isSign_9 : decode M_MD_isSign.2.1 9 = .ok (.getfield 83, 3) := by decide +kernel
theorem d_MD_isSign_12 : decode M_MD_isSign.2.1 12 = .ok (.iload_n 1, 1) := by decide +kernel
theorem d_MD_isSign_13 : decode M_MD_isSign.2.1 13 = .ok (.if_icmp .ne 7, 3) := by decide +kernel
theorem d_MD_isSign_16 : decode M_MD_isSign.2.1 16 = .ok (.iconst 1, 1) := by decide +kernel
theorem d_MD_isSign_17 : decode M_MD_isSign.2.1 17 = .ok (.goto 4, 3) := by decide +kernel
theorem d_MD_isSign_20 : decode M_MD_isSign.2.1 20 = .ok (.iconst 0, 1) := by decide +kernel
theorem d_MD_isSign_21 : decode M_MD_isSign.2.1 21 = .ok (.ireturn, 1) := by decide +kernel
theorem k_MD_isSign : x_kV M_MD_isSign "QuestionReaderModel" 1 := ⟨⟨by decide, Or.inl ⟨w_1366, rfl⟩⟩, w_1365, ws_53, ⟨by decide, by decide⟩, by decide +kernel⟩
def M_MD_keep : x_M := (⟨"QuestionReaderModel", "keep", "(I)V"⟩, prog_14_method_21_code, 3, none, [])
theorem d_MD_keep_0 : decode M_MD_keep.2.1 0 = .ok (.aload_n 0, 1) := by decide +kernel
theorem d_MD_keep_1 : decode M_MD_keep.2.1 1 = .ok (.getfield 40, 3) := by decide +kernel
theorem d_MD_keep_4 : decode M_MD_keep.2.1 4 = .ok (.iload_n 1, 1) := by decide +kernel
theorem d_MD_keep_5 : decode M_MD_keep.2.1 5 = .ok (.aload_n 0, 1) := by decide +kernel
theorem d_MD_keep_6 : decode M_MD_keep.2.1 6 = .ok (.getfield 70, 3) := by decide +kernel
theorem d_MD_keep_9 : decode M_MD_keep.2.1 9 = .ok (.aload_n 0, 1) := by decide +kernel
theorem d_MD_keep_10 : decode M_MD_keep.2.1 10 = .ok (.getfield 77, 3) := by decide +kernel
theorem d_MD_keep_13 : decode M_MD_keep.2.1 13 = .ok (.isub, 1) := by decide +kernel
theorem d_MD_keep_14 : decode M_MD_keep.2.1 14 = .ok (.iastore, 1) := by decide +kernel
theorem d_MD_keep_15 : decode M_MD_keep.2.1 15 = .ok (.iconst 0, 1) := by decide +kernel
theorem d_MD_keep_16 : decode M_MD_keep.2.1 16 = .ok (.istore_n 2, 1) := by decide +kernel
theorem d_MD_keep_17 : decode M_MD_keep.2.1 17 = .ok (.iload_n 2, 1) := by decide +kernel
theorem d_MD_keep_18 : decode M_MD_keep.2.1 18 = .ok (.aload_n 0, 1) := by decide +kernel
theorem d_MD_keep_19 : decode M_MD_keep.2.1 19 = .ok (.getfield 40, 3) := by decide +kernel
theorem d_MD_keep_22 : decode M_MD_keep.2.1 22 = .ok (.iload_n 1, 1) := by decide +kernel
theorem d_MD_keep_23 : decode M_MD_keep.2.1 23 = .ok (.iaload, 1) := by decide +kernel
theorem d_MD_keep_24 : decode M_MD_keep.2.1 24 = .ok (.if_icmp .ge 31, 3) := by decide +kernel
theorem d_MD_keep_27 : decode M_MD_keep.2.1 27 = .ok (.aload_n 0, 1) := by decide +kernel
theorem d_MD_keep_28 : decode M_MD_keep.2.1 28 = .ok (.getfield 37, 3) := by decide +kernel
theorem d_MD_keep_31 : decode M_MD_keep.2.1 31 = .ok (.bipush 40, 2) := by decide +kernel
theorem d_MD_keep_33 : decode M_MD_keep.2.1 33 = .ok (.iload_n 1, 1) := by decide +kernel
theorem d_MD_keep_34 : decode M_MD_keep.2.1 34 = .ok (.imul, 1) := by decide +kernel
theorem d_MD_keep_35 : decode M_MD_keep.2.1 35 = .ok (.iload_n 2, 1) := by decide +kernel
theorem d_MD_keep_36 : decode M_MD_keep.2.1 36 = .ok (.iadd, 1) := by decide +kernel
theorem d_MD_keep_37 : decode M_MD_keep.2.1 37 = .ok (.aload_n 0, 1) := by decide +kernel
theorem d_MD_keep_38 : decode M_MD_keep.2.1 38 = .ok (.getfield 16, 3) := by decide +kernel
theorem d_MD_keep_41 : decode M_MD_keep.2.1 41 = .ok (.aload_n 0, 1) := by decide +kernel
theorem d_MD_keep_42 : decode M_MD_keep.2.1 42 = .ok (.getfield 77, 3) := by decide +kernel
theorem d_MD_keep_45 : decode M_MD_keep.2.1 45 = .ok (.iload_n 2, 1) := by decide +kernel
theorem d_MD_keep_46 : decode M_MD_keep.2.1 46 = .ok (.iadd, 1) := by decide +kernel
theorem d_MD_keep_47 : decode M_MD_keep.2.1 47 = .ok (.baload, 1) := by decide +kernel
theorem d_MD_keep_48 : decode M_MD_keep.2.1 48 = .ok (.bastore, 1) := by decide +kernel
theorem d_MD_keep_49 : decode M_MD_keep.2.1 49 = .ok (.iinc 2 1, 3) := by decide +kernel
theorem d_MD_keep_52 : decode M_MD_keep.2.1 52 = .ok (.goto (-35), 3) := by decide +kernel
theorem d_MD_keep_55 : decode M_MD_keep.2.1 55 = .ok (.return_, 1) := by decide +kernel
theorem k_MD_keep : x_kV M_MD_keep "QuestionReaderModel" 1 := ⟨⟨by decide, Or.inl ⟨w_1358, rfl⟩⟩, w_1357, ws_51, ⟨by decide, by decide⟩, by decide +kernel⟩
def M_MD_must : x_M := (⟨"QuestionReaderModel", "must", "(Z)Z"⟩, prog_14_method_14_code, 2, some (.boolean), [])
theorem d_MD_must_0 : decode M_MD_must.2.1 0 = .ok (.aload_n 0, 1) := by decide +kernel
theorem d_MD_must_1 : decode M_MD_must.2.1 1 = .ok (.iload_n 1, 1) := by decide +kernel
theorem d_MD_must_2 : decode M_MD_must.2.1 2 = .ok (.aload_n 0, 1) := by decide +kernel
theorem d_MD_must_3 : decode M_MD_must.2.1 3 = .ok (.getfield 86, 3) := by decide +kernel
theorem d_MD_must_6 : decode M_MD_must.2.1 6 = .ok (.ifCond .ne 7, 3) := by decide +kernel
theorem d_MD_must_9 : decode M_MD_must.2.1 9 = .ok (.iconst 3, 1) := by decide +kernel
theorem d_MD_must_10 : decode M_MD_must.2.1 10 = .ok (.goto 4, 3) := by decide +kernel
theorem d_MD_must_13 : decode M_MD_must.2.1 13 = .ok (.iconst 4, 1) := by decide +kernel
theorem d_MD_must_14 : decode M_MD_must.2.1 14 = .ok (.aload_n 0, 1) := by decide +kernel
theorem d_MD_must_15 : decode M_MD_must.2.1 15 = .ok (.getfield 77, 3) := by decide +kernel
theorem d_MD_must_18 : decode M_MD_must.2.1 18 = .ok (.invokevirtual 117, 3) := by decide +kernel
theorem d_MD_must_21 : decode M_MD_must.2.1 21 = .ok (.ireturn, 1) := by decide +kernel
theorem k_MD_must : x_kV M_MD_must "QuestionReaderModel" 1 := ⟨⟨by decide, Or.inl ⟨w_1334, rfl⟩⟩, w_1333, ws_45, ⟨by decide, by decide⟩, by decide +kernel⟩
def M_MD_name : x_M := (⟨"QuestionReaderModel", "name", "()Z"⟩, prog_14_method_18_code, 1, some (.boolean), [])
theorem d_MD_name_0 : decode M_MD_name.2.1 0 = .ok (.aload_n 0, 1) := by decide +kernel
theorem d_MD_name_1 : decode M_MD_name.2.1 1 = .ok (.aload_n 0, 1) := by decide +kernel
theorem d_MD_name_2 : decode M_MD_name.2.1 2 = .ok (.getfield 86, 3) := by decide +kernel
theorem d_MD_name_5 : decode M_MD_name.2.1 5 = .ok (.iconst 1, 1) := by decide +kernel
theorem d_MD_name_6 : decode M_MD_name.2.1 6 = .ok (.if_icmp .ne 7, 3) := by decide +kernel
theorem d_MD_name_9 : decode M_MD_name.2.1 9 = .ok (.iconst 1, 1) := by decide +kernel
theorem d_MD_name_10 : decode M_MD_name.2.1 10 = .ok (.goto 4, 3) := by decide +kernel
theorem d_MD_name_13 : decode M_MD_name.2.1 13 = .ok (.iconst 0, 1) := by decide +kernel
theorem d_MD_name_14 : decode M_MD_name.2.1 14 = .ok (.invokevirtual 139, 3) := by decide +kernel
theorem d_MD_name_17 : decode M_MD_name.2.1 17 = .ok (.ifCond .eq 45, 3) := by decide +kernel
theorem d_MD_name_20 : decode M_MD_name.2.1 20 = .ok (.aload_n 0, 1) := by decide +kernel
theorem d_MD_name_21 : decode M_MD_name.2.1 21 = .ok (.aload_n 0, 1) := by decide +kernel
theorem d_MD_name_22 : decode M_MD_name.2.1 22 = .ok (.getfield 80, 3) := by decide +kernel
theorem d_MD_name_25 : decode M_MD_name.2.1 25 = .ok (.ifCond .ge 21, 3) := by decide +kernel
theorem d_MD_name_28 : decode M_MD_name.2.1 28 = .ok (.aload_n 0, 1) := by decide +kernel
theorem d_MD_name_29 : decode M_MD_name.2.1 29 = .ok (.getfield 70, 3) := by decide +kernel
theorem d_MD_name_32 : decode M_MD_name.2.1 32 = .ok (.aload_n 0, 1) := by decide +kernel
theorem d_MD_name_33 : decode M_MD_name.2.1 33 = .ok (.getfield 77, 3) := by decide +kernel
theorem d_MD_name_36 : decode M_MD_name.2.1 36 = .ok (.isub, 1) := by decide +kernel
theorem d_MD_name_37 : decode M_MD_name.2.1 37 = .ok (.bipush 40, 2) := by decide +kernel
theorem d_MD_name_39 : decode M_MD_name.2.1 39 = .ok (.if_icmp .gt 7, 3) := by decide +kernel
theorem d_MD_name_42 : decode M_MD_name.2.1 42 = .ok (.iconst 1, 1) := by decide +kernel
theorem d_MD_name_43 : decode M_MD_name.2.1 43 = .ok (.goto 4, 3) := by decide +kernel
theorem d_MD_name_46 : decode M_MD_name.2.1 46 = .ok (.iconst 0, 1) := by decide +kernel
theorem d_MD_name_47 : decode M_MD_name.2.1 47 = .ok (.iconst 5, 1) := by decide +kernel
theorem d_MD_name_48 : decode M_MD_name.2.1 48 = .ok (.aload_n 0, 1) := by decide +kernel
theorem d_MD_name_49 : decode M_MD_name.2.1 49 = .ok (.getfield 77, 3) := by decide +kernel
theorem d_MD_name_52 : decode M_MD_name.2.1 52 = .ok (.invokevirtual 117, 3) := by decide +kernel
theorem d_MD_name_55 : decode M_MD_name.2.1 55 = .ok (.ifCond .eq 7, 3) := by decide +kernel
theorem d_MD_name_58 : decode M_MD_name.2.1 58 = .ok (.iconst 1, 1) := by decide +kernel
theorem d_MD_name_59 : decode M_MD_name.2.1 59 = .ok (.goto 4, 3) := by decide +kernel
theorem d_MD_name_62 : decode M_MD_name.2.1 62 = .ok (.iconst 0, 1) := by decide +kernel
theorem d_MD_name_63 : decode M_MD_name.2.1 63 = .ok (.ireturn, 1) := by decide +kernel
theorem k_MD_name : x_kV M_MD_name "QuestionReaderModel" 0 := ⟨⟨by decide, Or.inl ⟨w_1346, rfl⟩⟩, w_1345, ws_48, ⟨by decide, by decide⟩, by decide +kernel⟩
def M_MD_needSign : x_M := (⟨"QuestionReaderModel", "needSign", "(I)Z"⟩, prog_14_method_17_code, 2, some (.boolean), [])
theorem d_MD_needSign_0 : decode M_MD_needSign.2.1 0 = .ok (.aload_n 0, 1) := by decide +kernel
theorem d_MD_needSign_1 : decode M_MD_needSign.2.1 1 = .ok (.invokevirtual 133, 3) := by decide +kernel
theorem d_MD_needSign_4 : decode M_MD_needSign.2.1 4 = .ok (.aload_n 0, 1) := by decide +kernel
theorem d_MD_needSign_5 : decode M_MD_needSign.2.1 5 = .ok (.aload_n 0, 1) := by decide +kernel
theorem d_MD_needSign_6 : decode M_MD_needSign.2.1 6 = .ok (.iload_n 1, 1) := by decide +kernel
theorem d_MD_needSign_7 : decode M_MD_needSign.2.1 7 = .ok (.invokevirtual 136, 3) := by decide +kernel
theorem d_MD_needSign_10 : decode M_MD_needSign.2.1 10 = .ok (.invokevirtual 139, 3) := by decide +kernel
theorem d_MD_needSign_13 : decode M_MD_needSign.2.1 13 = .ok (.ireturn, 1) := by decide +kernel
theorem k_MD_needSign : x_kV M_MD_needSign "QuestionReaderModel" 1 := ⟨⟨by decide, Or.inl ⟨w_1362, rfl⟩⟩, w_1361, ws_52, ⟨by decide, by decide⟩, by decide +kernel⟩
def M_MD_newName : x_M := (⟨"QuestionReaderModel", "newName", "()Z"⟩, prog_14_method_22_code, 1, some (.boolean), [])
theorem d_MD_newName_0 : decode M_MD_newName.2.1 0 = .ok (.aload_n 0, 1) := by decide +kernel
theorem d_MD_newName_1 : decode M_MD_newName.2.1 1 = .ok (.invokevirtual 133, 3) := by decide +kernel
theorem d_MD_newName_4 : decode M_MD_newName.2.1 4 = .ok (.aload_n 0, 1) := by decide +kernel
theorem d_MD_newName_5 : decode M_MD_newName.2.1 5 = .ok (.invokevirtual 146, 3) := by decide +kernel
theorem d_MD_newName_8 : decode M_MD_newName.2.1 8 = .ok (.ifCond .eq 50, 3) := by decide +kernel
theorem d_MD_newName_11 : decode M_MD_newName.2.1 11 = .ok (.aload_n 0, 1) := by decide +kernel
theorem d_MD_newName_12 : decode M_MD_newName.2.1 12 = .ok (.aload_n 0, 1) := by decide +kernel
theorem d_MD_newName_13 : decode M_MD_newName.2.1 13 = .ok (.iconst 0, 1) := by decide +kernel
theorem d_MD_newName_14 : decode M_MD_newName.2.1 14 = .ok (.aload_n 0, 1) := by decide +kernel
theorem d_MD_newName_15 : decode M_MD_newName.2.1 15 = .ok (.getfield 150, 3) := by decide +kernel
theorem d_MD_newName_18 : decode M_MD_newName.2.1 18 = .ok (.invokevirtual 153, 3) := by decide +kernel
theorem d_MD_newName_21 : decode M_MD_newName.2.1 21 = .ok (.ifCond .ge 20, 3) := by decide +kernel
theorem d_MD_newName_24 : decode M_MD_newName.2.1 24 = .ok (.aload_n 0, 1) := by decide +kernel
theorem d_MD_newName_25 : decode M_MD_newName.2.1 25 = .ok (.bipush 40, 2) := by decide +kernel
theorem d_MD_newName_27 : decode M_MD_newName.2.1 27 = .ok (.aload_n 0, 1) := by decide +kernel
theorem d_MD_newName_28 : decode M_MD_newName.2.1 28 = .ok (.getfield 157, 3) := by decide +kernel
theorem d_MD_newName_31 : decode M_MD_newName.2.1 31 = .ok (.invokevirtual 153, 3) := by decide +kernel
theorem d_MD_newName_34 : decode M_MD_newName.2.1 34 = .ok (.ifCond .ge 7, 3) := by decide +kernel
theorem d_MD_newName_37 : decode M_MD_newName.2.1 37 = .ok (.iconst 1, 1) := by decide +kernel
theorem d_MD_newName_38 : decode M_MD_newName.2.1 38 = .ok (.goto 4, 3) := by decide +kernel
theorem d_MD_newName_41 : decode M_MD_newName.2.1 41 = .ok (.iconst 0, 1) := by decide +kernel
theorem d_MD_newName_42 : decode M_MD_newName.2.1 42 = .ok (.bipush 6, 2) := by decide +kernel
theorem d_MD_newName_44 : decode M_MD_newName.2.1 44 = .ok (.aload_n 0, 1) := by decide +kernel
theorem d_MD_newName_45 : decode M_MD_newName.2.1 45 = .ok (.getfield 77, 3) := by decide +kernel
theorem d_MD_newName_48 : decode M_MD_newName.2.1 48 = .ok (.invokevirtual 117, 3) := by decide +kernel
theorem d_MD_newName_51 : decode M_MD_newName.2.1 51 = .ok (.ifCond .eq 7, 3) := by decide +kernel
theorem d_MD_newName_54 : decode M_MD_newName.2.1 54 = .ok (.iconst 1, 1) := by decide +kernel
theorem d_MD_newName_55 : decode M_MD_newName.2.1 55 = .ok (.goto 4, 3) := by decide +kernel
theorem d_MD_newName_58 : decode M_MD_newName.2.1 58 = .ok (.iconst 0, 1) := by decide +kernel
theorem d_MD_newName_59 : decode M_MD_newName.2.1 59 = .ok (.ireturn, 1) := by decide +kernel
theorem k_MD_newName : x_kV M_MD_newName "QuestionReaderModel" 0 := ⟨⟨by decide, Or.inl ⟨w_1342, rfl⟩⟩, w_1341, ws_47, ⟨by decide, by decide⟩, by decide +kernel⟩
def M_MD_dimension0 : x_M := (⟨"QuestionReaderModel", "dimension", "()V"⟩, prog_14_method_23_code, 4, none, [])
theorem d_MD_dimension0_0 : decode M_MD_dimension0.2.1 0 = .ok (.aload_n 0, 1) := by decide +kernel
theorem d_MD_dimension0_1 : decode M_MD_dimension0.2.1 1 = .ok (.invokevirtual 160, 3) := by decide +kernel
theorem d_MD_dimension0_4 : decode M_MD_dimension0.2.1 4 = .ok (.ifCond .eq 38, 3) := by decide +kernel
theorem d_MD_dimension0_7 : decode M_MD_dimension0.2.1 7 = .ok (.aload_n 0, 1) := by decide +kernel
theorem d_MD_dimension0_8 : decode M_MD_dimension0.2.1 8 = .ok (.aload_n 0, 1) := by decide +kernel
theorem d_MD_dimension0_9 : decode M_MD_dimension0.2.1 9 = .ok (.getfield 150, 3) := by decide +kernel
theorem d_MD_dimension0_12 : decode M_MD_dimension0.2.1 12 = .ok (.bipush 8, 2) := by decide +kernel
theorem d_MD_dimension0_14 : decode M_MD_dimension0.2.1 14 = .ok (.if_icmp .ge 7, 3) := by decide +kernel
theorem d_MD_dimension0_17 : decode M_MD_dimension0.2.1 17 = .ok (.iconst 1, 1) := by decide +kernel
theorem d_MD_dimension0_18 : decode M_MD_dimension0.2.1 18 = .ok (.goto 4, 3) := by decide +kernel
theorem d_MD_dimension0_21 : decode M_MD_dimension0.2.1 21 = .ok (.iconst 0, 1) := by decide +kernel
theorem d_MD_dimension0_22 : decode M_MD_dimension0.2.1 22 = .ok (.bipush 7, 2) := by decide +kernel
theorem d_MD_dimension0_24 : decode M_MD_dimension0.2.1 24 = .ok (.aload_n 0, 1) := by decide +kernel
theorem d_MD_dimension0_25 : decode M_MD_dimension0.2.1 25 = .ok (.getfield 77, 3) := by decide +kernel
theorem d_MD_dimension0_28 : decode M_MD_dimension0.2.1 28 = .ok (.invokevirtual 117, 3) := by decide +kernel
theorem d_MD_dimension0_31 : decode M_MD_dimension0.2.1 31 = .ok (.ifCond .eq 11, 3) := by decide +kernel
theorem d_MD_dimension0_34 : decode M_MD_dimension0.2.1 34 = .ok (.aload_n 0, 1) := by decide +kernel
theorem d_MD_dimension0_35 : decode M_MD_dimension0.2.1 35 = .ok (.aload_n 0, 1) := by decide +kernel
theorem d_MD_dimension0_36 : decode M_MD_dimension0.2.1 36 = .ok (.getfield 150, 3) := by decide +kernel
theorem d_MD_dimension0_39 : decode M_MD_dimension0.2.1 39 = .ok (.invokevirtual 163, 3) := by decide +kernel
theorem d_MD_dimension0_42 : decode M_MD_dimension0.2.1 42 = .ok (.aload_n 0, 1) := by decide +kernel
theorem d_MD_dimension0_43 : decode M_MD_dimension0.2.1 43 = .ok (.bipush 40, 2) := by decide +kernel
theorem d_MD_dimension0_45 : decode M_MD_dimension0.2.1 45 = .ok (.invokevirtual 166, 3) := by decide +kernel
theorem d_MD_dimension0_48 : decode M_MD_dimension0.2.1 48 = .ok (.istore_n 1, 1) := by decide +kernel
theorem d_MD_dimension0_49 : decode M_MD_dimension0.2.1 49 = .ok (.iconst 0, 1) := by decide +kernel
theorem d_MD_dimension0_50 : decode M_MD_dimension0.2.1 50 = .ok (.istore_n 2, 1) := by decide +kernel
theorem d_MD_dimension0_51 : decode M_MD_dimension0.2.1 51 = .ok (.iload_n 1, 1) := by decide +kernel
theorem d_MD_dimension0_52 : decode M_MD_dimension0.2.1 52 = .ok (.istore_n 3, 1) := by decide +kernel
theorem d_MD_dimension0_53 : decode M_MD_dimension0.2.1 53 = .ok (.iload_n 3, 1) := by decide +kernel
theorem d_MD_dimension0_54 : decode M_MD_dimension0.2.1 54 = .ok (.ifCond .eq 142, 3) := by decide +kernel
theorem d_MD_dimension0_57 : decode M_MD_dimension0.2.1 57 = .ok (.aload_n 0, 1) := by decide +kernel
theorem d_MD_dimension0_58 : decode M_MD_dimension0.2.1 58 = .ok (.invokevirtual 133, 3) := by decide +kernel
theorem d_MD_dimension0_61 : decode M_MD_dimension0.2.1 61 = .ok (.aload_n 0, 1) := by decide +kernel
theorem d_MD_dimension0_62 : decode M_MD_dimension0.2.1 62 = .ok (.invokevirtual 146, 3) := by decide +kernel
theorem d_MD_dimension0_65 : decode M_MD_dimension0.2.1 65 = .ok (.ifCond .eq 79, 3) := by decide +kernel
theorem d_MD_dimension0_68 : decode M_MD_dimension0.2.1 68 = .ok (.aload_n 0, 1) := by decide +kernel
theorem d_MD_dimension0_69 : decode M_MD_dimension0.2.1 69 = .ok (.aload_n 0, 1) := by decide +kernel
theorem d_MD_dimension0_70 : decode M_MD_dimension0.2.1 70 = .ok (.bipush 8, 2) := by decide +kernel
theorem d_MD_dimension0_72 : decode M_MD_dimension0.2.1 72 = .ok (.iconst 4, 1) := by decide +kernel
theorem d_MD_dimension0_73 : decode M_MD_dimension0.2.1 73 = .ok (.aload_n 0, 1) := by decide +kernel
theorem d_MD_dimension0_74 : decode M_MD_dimension0.2.1 74 = .ok (.getfield 150, 3) := by decide +kernel
theorem d_MD_dimension0_77 : decode M_MD_dimension0.2.1 77 = .ok (.imul, 1) := by decide +kernel
theorem d_MD_dimension0_78 : decode M_MD_dimension0.2.1 78 = .ok (.iadd, 1) := by decide +kernel
theorem d_MD_dimension0_79 : decode M_MD_dimension0.2.1 79 = .ok (.iload_n 2, 1) := by decide +kernel
theorem d_MD_dimension0_80 : decode M_MD_dimension0.2.1 80 = .ok (.invokevirtual 153, 3) := by decide +kernel
theorem d_MD_dimension0_83 : decode M_MD_dimension0.2.1 83 = .ok (.ifCond .ge 7, 3) := by decide +kernel
theorem d_MD_dimension0_86 : decode M_MD_dimension0.2.1 86 = .ok (.iconst 1, 1) := by decide +kernel
theorem d_MD_dimension0_87 : decode M_MD_dimension0.2.1 87 = .ok (.goto 4, 3) := by decide +kernel
theorem d_MD_dimension0_90 : decode M_MD_dimension0.2.1 90 = .ok (.iconst 0, 1) := by decide +kernel
theorem d_MD_dimension0_91 : decode M_MD_dimension0.2.1 91 = .ok (.bipush 6, 2) := by decide +kernel
theorem d_MD_dimension0_93 : decode M_MD_dimension0.2.1 93 = .ok (.aload_n 0, 1) := by decide +kernel
theorem d_MD_dimension0_94 : decode M_MD_dimension0.2.1 94 = .ok (.getfield 77, 3) := by decide +kernel
theorem d_MD_dimension0_97 : decode M_MD_dimension0.2.1 97 = .ok (.invokevirtual 117, 3) := by decide +kernel
theorem d_MD_dimension0_100 : decode M_MD_dimension0.2.1 100 = .ok (.ifCond .eq 44, 3) := by decide +kernel
theorem d_MD_dimension0_103 : decode M_MD_dimension0.2.1 103 = .ok (.aload_n 0, 1) := by decide +kernel
theorem d_MD_dimension0_104 : decode M_MD_dimension0.2.1 104 = .ok (.iload_n 2, 1) := by decide +kernel
theorem d_MD_dimension0_105 : decode M_MD_dimension0.2.1 105 = .ok (.iconst 4, 1) := by decide +kernel
theorem d_MD_dimension0_106 : decode M_MD_dimension0.2.1 106 = .ok (.if_icmp .ge 7, 3) := by decide +kernel
theorem d_MD_dimension0_109 : decode M_MD_dimension0.2.1 109 = .ok (.iconst 1, 1) := by decide +kernel
theorem d_MD_dimension0_110 : decode M_MD_dimension0.2.1 110 = .ok (.goto 4, 3) := by decide +kernel
theorem d_MD_dimension0_113 : decode M_MD_dimension0.2.1 113 = .ok (.iconst 0, 1) := by decide +kernel
theorem d_MD_dimension0_114 : decode M_MD_dimension0.2.1 114 = .ok (.bipush 7, 2) := by decide +kernel
theorem d_MD_dimension0_116 : decode M_MD_dimension0.2.1 116 = .ok (.aload_n 0, 1) := by decide +kernel
theorem d_MD_dimension0_117 : decode M_MD_dimension0.2.1 117 = .ok (.getfield 77, 3) := by decide +kernel
theorem d_MD_dimension0_120 : decode M_MD_dimension0.2.1 120 = .ok (.invokevirtual 117, 3) := by decide +kernel
theorem d_MD_dimension0_123 : decode M_MD_dimension0.2.1 123 = .ok (.ifCond .eq 21, 3) := by decide +kernel
theorem d_MD_dimension0_126 : decode M_MD_dimension0.2.1 126 = .ok (.aload_n 0, 1) := by decide +kernel
theorem d_MD_dimension0_127 : decode M_MD_dimension0.2.1 127 = .ok (.bipush 8, 2) := by decide +kernel
theorem d_MD_dimension0_129 : decode M_MD_dimension0.2.1 129 = .ok (.iconst 4, 1) := by decide +kernel
theorem d_MD_dimension0_130 : decode M_MD_dimension0.2.1 130 = .ok (.aload_n 0, 1) := by decide +kernel
theorem d_MD_dimension0_131 : decode M_MD_dimension0.2.1 131 = .ok (.getfield 150, 3) := by decide +kernel
theorem d_MD_dimension0_134 : decode M_MD_dimension0.2.1 134 = .ok (.imul, 1) := by decide +kernel
theorem d_MD_dimension0_135 : decode M_MD_dimension0.2.1 135 = .ok (.iadd, 1) := by decide +kernel
theorem d_MD_dimension0_136 : decode M_MD_dimension0.2.1 136 = .ok (.iload_n 2, 1) := by decide +kernel
theorem d_MD_dimension0_137 : decode M_MD_dimension0.2.1 137 = .ok (.iadd, 1) := by decide +kernel
theorem d_MD_dimension0_138 : decode M_MD_dimension0.2.1 138 = .ok (.invokevirtual 163, 3) := by decide +kernel
theorem d_MD_dimension0_141 : decode M_MD_dimension0.2.1 141 = .ok (.iinc 2 1, 3) := by decide +kernel
theorem d_MD_dimension0_144 : decode M_MD_dimension0.2.1 144 = .ok (.aload_n 0, 1) := by decide +kernel
theorem d_MD_dimension0_145 : decode M_MD_dimension0.2.1 145 = .ok (.invokevirtual 133, 3) := by decide +kernel
theorem d_MD_dimension0_148 : decode M_MD_dimension0.2.1 148 = .ok (.aload_n 0, 1) := by decide +kernel
theorem d_MD_dimension0_149 : decode M_MD_dimension0.2.1 149 = .ok (.aload_n 0, 1) := by decide +kernel
theorem d_MD_dimension0_150 : decode M_MD_dimension0.2.1 150 = .ok (.bipush 44, 2) := by decide +kernel
theorem d_MD_dimension0_152 : decode M_MD_dimension0.2.1 152 = .ok (.invokevirtual 136, 3) := by decide +kernel
theorem d_MD_dimension0_155 : decode M_MD_dimension0.2.1 155 = .ok (.ifCond .ne 12, 3) := by decide +kernel
theorem d_MD_dimension0_158 : decode M_MD_dimension0.2.1 158 = .ok (.aload_n 0, 1) := by decide +kernel
theorem d_MD_dimension0_159 : decode M_MD_dimension0.2.1 159 = .ok (.bipush 41, 2) := by decide +kernel
theorem d_MD_dimension0_161 : decode M_MD_dimension0.2.1 161 = .ok (.invokevirtual 136, 3) := by decide +kernel
theorem d_MD_dimension0_164 : decode M_MD_dimension0.2.1 164 = .ok (.ifCond .eq 7, 3) := by decide +kernel
theorem d_MD_dimension0_167 : decode M_MD_dimension0.2.1 167 = .ok (.iconst 1, 1) := by decide +kernel
theorem d_MD_dimension0_168 : decode M_MD_dimension0.2.1 168 = .ok (.goto 4, 3) := by decide +kernel
theorem d_MD_dimension0_171 : decode M_MD_dimension0.2.1 171 = .ok (.iconst 0, 1) := by decide +kernel
theorem d_MD_dimension0_172 : decode M_MD_dimension0.2.1 172 = .ok (.invokevirtual 139, 3) := by decide +kernel
theorem d_MD_dimension0_175 : decode M_MD_dimension0.2.1 175 = .ok (.ifCond .eq 16, 3) := by decide +kernel
theorem d_MD_dimension0_178 : decode M_MD_dimension0.2.1 178 = .ok (.aload_n 0, 1) := by decide +kernel
theorem d_MD_dimension0_179 : decode M_MD_dimension0.2.1 179 = .ok (.bipush 44, 2) := by decide +kernel
theorem d_MD_dimension0_181 : decode M_MD_dimension0.2.1 181 = .ok (.invokevirtual 136, 3) := by decide +kernel
theorem d_MD_dimension0_184 : decode M_MD_dimension0.2.1 184 = .ok (.ifCond .eq 7, 3) := by decide +kernel
theorem d_MD_dimension0_187 : decode M_MD_dimension0.2.1 187 = .ok (.iconst 1, 1) := by decide +kernel
theorem d_MD_dimension0_188 : decode M_MD_dimension0.2.1 188 = .ok (.goto 4, 3) := by decide +kernel
theorem d_MD_dimension0_191 : decode M_MD_dimension0.2.1 191 = .ok (.iconst 0, 1) := by decide +kernel
theorem d_MD_dimension0_192 : decode M_MD_dimension0.2.1 192 = .ok (.istore_n 3, 1) := by decide +kernel
theorem d_MD_dimension0_193 : decode M_MD_dimension0.2.1 193 = .ok (.goto (-140), 3) := by decide +kernel
theorem d_MD_dimension0_196 : decode M_MD_dimension0.2.1 196 = .ok (.aload_n 0, 1) := by decide +kernel
theorem d_MD_dimension0_197 : decode M_MD_dimension0.2.1 197 = .ok (.bipush 59, 2) := by decide +kernel
theorem d_MD_dimension0_199 : decode M_MD_dimension0.2.1 199 = .ok (.invokevirtual 166, 3) := by decide +kernel
theorem d_MD_dimension0_202 : decode M_MD_dimension0.2.1 202 = .ok (.ifCond .eq 40, 3) := by decide +kernel
theorem d_MD_dimension0_205 : decode M_MD_dimension0.2.1 205 = .ok (.aload_n 0, 1) := by decide +kernel
theorem d_MD_dimension0_206 : decode M_MD_dimension0.2.1 206 = .ok (.getfield 67, 3) := by decide +kernel
theorem d_MD_dimension0_209 : decode M_MD_dimension0.2.1 209 = .ok (.ifCond .ne 33, 3) := by decide +kernel
theorem d_MD_dimension0_212 : decode M_MD_dimension0.2.1 212 = .ok (.aload_n 0, 1) := by decide +kernel
theorem d_MD_dimension0_213 : decode M_MD_dimension0.2.1 213 = .ok (.getfield 24, 3) := by decide +kernel
theorem d_MD_dimension0_216 : decode M_MD_dimension0.2.1 216 = .ok (.aload_n 0, 1) := by decide +kernel
theorem d_MD_dimension0_217 : decode M_MD_dimension0.2.1 217 = .ok (.getfield 150, 3) := by decide +kernel
theorem d_MD_dimension0_220 : decode M_MD_dimension0.2.1 220 = .ok (.iload_n 2, 1) := by decide +kernel
theorem d_MD_dimension0_221 : decode M_MD_dimension0.2.1 221 = .ok (.iastore, 1) := by decide +kernel
theorem d_MD_dimension0_222 : decode M_MD_dimension0.2.1 222 = .ok (.aload_n 0, 1) := by decide +kernel
theorem d_MD_dimension0_223 : decode M_MD_dimension0.2.1 223 = .ok (.getfield 28, 3) := by decide +kernel
theorem d_MD_dimension0_226 : decode M_MD_dimension0.2.1 226 = .ok (.aload_n 0, 1) := by decide +kernel
theorem d_MD_dimension0_227 : decode M_MD_dimension0.2.1 227 = .ok (.getfield 150, 3) := by decide +kernel
theorem d_MD_dimension0_230 : decode M_MD_dimension0.2.1 230 = .ok (.iconst 0, 1) := by decide +kernel
theorem d_MD_dimension0_231 : decode M_MD_dimension0.2.1 231 = .ok (.iastore, 1) := by decide +kernel
theorem d_MD_dimension0_232 : decode M_MD_dimension0.2.1 232 = .ok (.aload_n 0, 1) := by decide +kernel
theorem d_MD_dimension0_233 : decode M_MD_dimension0.2.1 233 = .ok (.dup, 1) := by decide +kernel
theorem d_MD_dimension0_234 : decode M_MD_dimension0.2.1 234 = .ok (.getfield 150, 3) := by decide +kernel
theorem d_MD_dimension0_237 : decode M_MD_dimension0.2.1 237 = .ok (.iconst 1, 1) := by decide +kernel
theorem d_MD_dimension0_238 : decode M_MD_dimension0.2.1 238 = .ok (.iadd, 1) := by decide +kernel
theorem d_MD_dimension0_239 : decode M_MD_dimension0.2.1 239 = .ok (.putfield 150, 3) := by decide +kernel
theorem d_MD_dimension0_242 : decode M_MD_dimension0.2.1 242 = .ok (.return_, 1) := by decide +kernel
theorem k_MD_dimension0 : x_kV M_MD_dimension0 "QuestionReaderModel" 0 := ⟨⟨by decide, Or.inl ⟨w_1338, rfl⟩⟩, w_1337, ws_46, ⟨by decide, by decide⟩, by decide +kernel⟩
def M_MD_isWord : x_M := (⟨"QuestionReaderModel", "isWord", "(I)Z"⟩, prog_14_method_16_code, 2, some (.boolean), [])
theorem d_MD_isWord_0 : decode M_MD_isWord.2.1 0 = .ok (.aload_n 0, 1) := by decide +kernel
theorem d_MD_isWord_1 : decode M_MD_isWord.2.1 1 = .ok (.getfield 86, 3) := by decide +kernel
theorem d_MD_isWord_4 : decode M_MD_isWord.2.1 4 = .ok (.iconst 1, 1) := by decide +kernel
theorem d_MD_isWord_5 : decode M_MD_isWord.2.1 5 = .ok (.if_icmp .ne 15, 3) := by decide +kernel
theorem d_MD_isWord_8 : decode M_MD_isWord.2.1 8 = .ok (.aload_n 0, 1) := by decide +kernel
theorem d_MD_isWord_9 : decode M_MD_isWord.2.1 9 = .ok (.getfield 80, 3) := by decide +kernel
theorem d_MD_isWord_12 : decode M_MD_isWord.2.1 12 = .ok (.iload_n 1, 1) := by decide +kernel
theorem d_MD_isWord_13 : decode M_MD_isWord.2.1 13 = .ok (.if_icmp .ne 7, 3) := by decide +kernel
theorem d_MD_isWord_16 : decode M_MD_isWord.2.1 16 = .ok (.iconst 1, 1) := by decide +kernel
theorem d_MD_isWord_17 : decode M_MD_isWord.2.1 17 = .ok (.goto 4, 3) := by decide +kernel
theorem d_MD_isWord_20 : decode M_MD_isWord.2.1 20 = .ok (.iconst 0, 1) := by decide +kernel
theorem d_MD_isWord_21 : decode M_MD_isWord.2.1 21 = .ok (.ireturn, 1) := by decide +kernel
theorem k_MD_isWord : x_kV M_MD_isWord "QuestionReaderModel" 1 := ⟨⟨by decide, Or.inl ⟨w_1330, rfl⟩⟩, w_1329, ws_44, ⟨by decide, by decide⟩, by decide +kernel⟩
def M_MD_measure : x_M := (⟨"QuestionReaderModel", "measure", "()V"⟩, prog_14_method_24_code, 1, none, [])
theorem d_MD_measure_0 : decode M_MD_measure.2.1 0 = .ok (.aload_n 0, 1) := by decide +kernel
theorem d_MD_measure_1 : decode M_MD_measure.2.1 1 = .ok (.invokevirtual 160, 3) := by decide +kernel
theorem d_MD_measure_4 : decode M_MD_measure.2.1 4 = .ok (.ifCond .eq 41, 3) := by decide +kernel
theorem d_MD_measure_7 : decode M_MD_measure.2.1 7 = .ok (.aload_n 0, 1) := by decide +kernel
theorem d_MD_measure_8 : decode M_MD_measure.2.1 8 = .ok (.aload_n 0, 1) := by decide +kernel
theorem d_MD_measure_9 : decode M_MD_measure.2.1 9 = .ok (.getfield 157, 3) := by decide +kernel
theorem d_MD_measure_12 : decode M_MD_measure.2.1 12 = .ok (.bipush 8, 2) := by decide +kernel
theorem d_MD_measure_14 : decode M_MD_measure.2.1 14 = .ok (.if_icmp .ge 7, 3) := by decide +kernel
theorem d_MD_measure_17 : decode M_MD_measure.2.1 17 = .ok (.iconst 1, 1) := by decide +kernel
theorem d_MD_measure_18 : decode M_MD_measure.2.1 18 = .ok (.goto 4, 3) := by decide +kernel
theorem d_MD_measure_21 : decode M_MD_measure.2.1 21 = .ok (.iconst 0, 1) := by decide +kernel
theorem d_MD_measure_22 : decode M_MD_measure.2.1 22 = .ok (.bipush 7, 2) := by decide +kernel
theorem d_MD_measure_24 : decode M_MD_measure.2.1 24 = .ok (.aload_n 0, 1) := by decide +kernel
theorem d_MD_measure_25 : decode M_MD_measure.2.1 25 = .ok (.getfield 77, 3) := by decide +kernel
theorem d_MD_measure_28 : decode M_MD_measure.2.1 28 = .ok (.invokevirtual 117, 3) := by decide +kernel
theorem d_MD_measure_31 : decode M_MD_measure.2.1 31 = .ok (.ifCond .eq 14, 3) := by decide +kernel
theorem d_MD_measure_34 : decode M_MD_measure.2.1 34 = .ok (.aload_n 0, 1) := by decide +kernel
theorem d_MD_measure_35 : decode M_MD_measure.2.1 35 = .ok (.bipush 40, 2) := by decide +kernel
theorem d_MD_measure_37 : decode M_MD_measure.2.1 37 = .ok (.aload_n 0, 1) := by decide +kernel
theorem d_MD_measure_38 : decode M_MD_measure.2.1 38 = .ok (.getfield 157, 3) := by decide +kernel
theorem d_MD_measure_41 : decode M_MD_measure.2.1 41 = .ok (.iadd, 1) := by decide +kernel
theorem d_MD_measure_42 : decode M_MD_measure.2.1 42 = .ok (.invokevirtual 163, 3) := by decide +kernel
theorem d_MD_measure_45 : decode M_MD_measure.2.1 45 = .ok (.aload_n 0, 1) := by decide +kernel
theorem d_MD_measure_46 : decode M_MD_measure.2.1 46 = .ok (.bipush 59, 2) := by decide +kernel
theorem d_MD_measure_48 : decode M_MD_measure.2.1 48 = .ok (.invokevirtual 166, 3) := by decide +kernel
theorem d_MD_measure_51 : decode M_MD_measure.2.1 51 = .ok (.ifCond .eq 20, 3) := by decide +kernel
theorem d_MD_measure_54 : decode M_MD_measure.2.1 54 = .ok (.aload_n 0, 1) := by decide +kernel
theorem d_MD_measure_55 : decode M_MD_measure.2.1 55 = .ok (.getfield 67, 3) := by decide +kernel
theorem d_MD_measure_58 : decode M_MD_measure.2.1 58 = .ok (.ifCond .ne 13, 3) := by decide +kernel
theorem d_MD_measure_61 : decode M_MD_measure.2.1 61 = .ok (.aload_n 0, 1) := by decide +kernel
theorem d_MD_measure_62 : decode M_MD_measure.2.1 62 = .ok (.dup, 1) := by decide +kernel
theorem d_MD_measure_63 : decode M_MD_measure.2.1 63 = .ok (.getfield 157, 3) := by decide +kernel
theorem d_MD_measure_66 : decode M_MD_measure.2.1 66 = .ok (.iconst 1, 1) := by decide +kernel
theorem d_MD_measure_67 : decode M_MD_measure.2.1 67 = .ok (.iadd, 1) := by decide +kernel
theorem d_MD_measure_68 : decode M_MD_measure.2.1 68 = .ok (.putfield 157, 3) := by decide +kernel
theorem d_MD_measure_71 : decode M_MD_measure.2.1 71 = .ok (.return_, 1) := by decide +kernel
theorem k_MD_measure : x_kV M_MD_measure "QuestionReaderModel" 0 := ⟨⟨by decide, Or.inl ⟨w_1370, rfl⟩⟩, w_1369, ws_54, ⟨by decide, by decide⟩, by decide +kernel⟩
def M_MD_goes : x_M := (⟨"QuestionReaderModel", "goes", "(II)Z"⟩, prog_14_method_25_code, 8, some (.boolean), [])
theorem d_MD_goes_0 : decode M_MD_goes.2.1 0 = .ok (.sipush 4000, 3) := by decide +kernel
theorem d_MD_goes_3 : decode M_MD_goes.2.1 3 = .ok (.iload_n 1, 1) := by decide +kernel
theorem d_MD_goes_4 : decode M_MD_goes.2.1 4 = .ok (.imul, 1) := by decide +kernel
theorem d_MD_goes_5 : decode M_MD_goes.2.1 5 = .ok (.iconst 4, 1) := by decide +kernel
theorem d_MD_goes_6 : decode M_MD_goes.2.1 6 = .ok (.iload_n 2, 1) := by decide +kernel
theorem d_MD_goes_7 : decode M_MD_goes.2.1 7 = .ok (.imul, 1) := by decide +kernel
theorem d_MD_goes_8 : decode M_MD_goes.2.1 8 = .ok (.iadd, 1) := by decide +kernel
theorem d_MD_goes_9 : decode M_MD_goes.2.1 9 = .ok (.istore_n 3, 1) := by decide +kernel
theorem d_MD_goes_10 : decode M_MD_goes.2.1 10 = .ok (.iconst 0, 1) := by decide +kernel
theorem d_MD_goes_11 : decode M_MD_goes.2.1 11 = .ok (.istore 4, 2) := by decide +kernel
theorem d_MD_goes_13 : decode M_MD_goes.2.1 13 = .ok (.iload 4, 2) := by decide +kernel
theorem d_MD_goes_15 : decode M_MD_goes.2.1 15 = .ok (.iload_n 2, 1) := by decide +kernel
theorem d_MD_goes_16 : decode M_MD_goes.2.1 16 = .ok (.if_icmp .ge 125, 3) := by decide +kernel
theorem d_MD_goes_19 : decode M_MD_goes.2.1 19 = .ok (.sipush 4000, 3) := by decide +kernel
theorem d_MD_goes_22 : decode M_MD_goes.2.1 22 = .ok (.iload_n 1, 1) := by decide +kernel
theorem d_MD_goes_23 : decode M_MD_goes.2.1 23 = .ok (.imul, 1) := by decide +kernel
theorem d_MD_goes_24 : decode M_MD_goes.2.1 24 = .ok (.iconst 4, 1) := by decide +kernel
theorem d_MD_goes_25 : decode M_MD_goes.2.1 25 = .ok (.iload 4, 2) := by decide +kernel
theorem d_MD_goes_27 : decode M_MD_goes.2.1 27 = .ok (.imul, 1) := by decide +kernel
theorem d_MD_goes_28 : decode M_MD_goes.2.1 28 = .ok (.iadd, 1) := by decide +kernel
theorem d_MD_goes_29 : decode M_MD_goes.2.1 29 = .ok (.istore 5, 2) := by decide +kernel
theorem d_MD_goes_31 : decode M_MD_goes.2.1 31 = .ok (.aload_n 0, 1) := by decide +kernel
theorem d_MD_goes_32 : decode M_MD_goes.2.1 32 = .ok (.getfield 31, 3) := by decide +kernel
theorem d_MD_goes_35 : decode M_MD_goes.2.1 35 = .ok (.iload 5, 2) := by decide +kernel
theorem d_MD_goes_37 : decode M_MD_goes.2.1 37 = .ok (.iaload, 1) := by decide +kernel
theorem d_MD_goes_38 : decode M_MD_goes.2.1 38 = .ok (.aload_n 0, 1) := by decide +kernel
theorem d_MD_goes_39 : decode M_MD_goes.2.1 39 = .ok (.getfield 31, 3) := by decide +kernel
theorem d_MD_goes_42 : decode M_MD_goes.2.1 42 = .ok (.iload_n 3, 1) := by decide +kernel
theorem d_MD_goes_43 : decode M_MD_goes.2.1 43 = .ok (.iaload, 1) := by decide +kernel
theorem d_MD_goes_44 : decode M_MD_goes.2.1 44 = .ok (.if_icmp .ne 5, 3) := by decide +kernel
theorem d_MD_goes_47 : decode M_MD_goes.2.1 47 = .ok (.iconst 0, 1) := by decide +kernel
theorem d_MD_goes_48 : decode M_MD_goes.2.1 48 = .ok (.ireturn, 1) := by decide +kernel
theorem d_MD_goes_49 : decode M_MD_goes.2.1 49 = .ok (.iconst 0, 1) := by decide +kernel
theorem d_MD_goes_50 : decode M_MD_goes.2.1 50 = .ok (.istore 6, 2) := by decide +kernel
theorem d_MD_goes_52 : decode M_MD_goes.2.1 52 = .ok (.iconst 0, 1) := by decide +kernel
theorem d_MD_goes_53 : decode M_MD_goes.2.1 53 = .ok (.istore 7, 2) := by decide +kernel
theorem d_MD_goes_55 : decode M_MD_goes.2.1 55 = .ok (.iload 7, 2) := by decide +kernel
theorem d_MD_goes_57 : decode M_MD_goes.2.1 57 = .ok (.aload_n 0, 1) := by decide +kernel
theorem d_MD_goes_58 : decode M_MD_goes.2.1 58 = .ok (.getfield 24, 3) := by decide +kernel
theorem d_MD_goes_61 : decode M_MD_goes.2.1 61 = .ok (.iload_n 1, 1) := by decide +kernel
theorem d_MD_goes_62 : decode M_MD_goes.2.1 62 = .ok (.iaload, 1) := by decide +kernel
theorem d_MD_goes_63 : decode M_MD_goes.2.1 63 = .ok (.if_icmp .ge 72, 3) := by decide +kernel
theorem d_MD_goes_66 : decode M_MD_goes.2.1 66 = .ok (.iload 6, 2) := by decide +kernel
theorem d_MD_goes_68 : decode M_MD_goes.2.1 68 = .ok (.ifCond .eq 27, 3) := by decide +kernel
theorem d_MD_goes_71 : decode M_MD_goes.2.1 71 = .ok (.aload_n 0, 1) := by decide +kernel
theorem d_MD_goes_72 : decode M_MD_goes.2.1 72 = .ok (.getfield 31, 3) := by decide +kernel
theorem d_MD_goes_75 : decode M_MD_goes.2.1 75 = .ok (.iload 5, 2) := by decide +kernel
theorem d_MD_goes_77 : decode M_MD_goes.2.1 77 = .ok (.iload 7, 2) := by decide +kernel
theorem d_MD_goes_79 : decode M_MD_goes.2.1 79 = .ok (.iadd, 1) := by decide +kernel
theorem d_MD_goes_80 : decode M_MD_goes.2.1 80 = .ok (.iaload, 1) := by decide +kernel
theorem d_MD_goes_81 : decode M_MD_goes.2.1 81 = .ok (.aload_n 0, 1) := by decide +kernel
theorem d_MD_goes_82 : decode M_MD_goes.2.1 82 = .ok (.getfield 31, 3) := by decide +kernel
theorem d_MD_goes_85 : decode M_MD_goes.2.1 85 = .ok (.iload_n 3, 1) := by decide +kernel
theorem d_MD_goes_86 : decode M_MD_goes.2.1 86 = .ok (.iload 7, 2) := by decide +kernel
theorem d_MD_goes_88 : decode M_MD_goes.2.1 88 = .ok (.iadd, 1) := by decide +kernel
theorem d_MD_goes_89 : decode M_MD_goes.2.1 89 = .ok (.iaload, 1) := by decide +kernel
theorem d_MD_goes_90 : decode M_MD_goes.2.1 90 = .ok (.if_icmp .eq 5, 3) := by decide +kernel
theorem d_MD_goes_93 : decode M_MD_goes.2.1 93 = .ok (.iconst 0, 1) := by decide +kernel
theorem d_MD_goes_94 : decode M_MD_goes.2.1 94 = .ok (.ireturn, 1) := by decide +kernel
theorem d_MD_goes_95 : decode M_MD_goes.2.1 95 = .ok (.iload 6, 2) := by decide +kernel
theorem d_MD_goes_97 : decode M_MD_goes.2.1 97 = .ok (.ifCond .ne 25, 3) := by decide +kernel
theorem d_MD_goes_100 : decode M_MD_goes.2.1 100 = .ok (.aload_n 0, 1) := by decide +kernel
theorem d_MD_goes_101 : decode M_MD_goes.2.1 101 = .ok (.getfield 31, 3) := by decide +kernel
theorem d_MD_goes_104 : decode M_MD_goes.2.1 104 = .ok (.iload 5, 2) := by decide +kernel
theorem d_MD_goes_106 : decode M_MD_goes.2.1 106 = .ok (.iload 7, 2) := by decide +kernel
theorem d_MD_goes_108 : decode M_MD_goes.2.1 108 = .ok (.iadd, 1) := by decide +kernel
theorem d_MD_goes_109 : decode M_MD_goes.2.1 109 = .ok (.iaload, 1) := by decide +kernel
theorem d_MD_goes_110 : decode M_MD_goes.2.1 110 = .ok (.aload_n 0, 1) := by decide +kernel
theorem d_MD_goes_111 : decode M_MD_goes.2.1 111 = .ok (.getfield 31, 3) := by decide +kernel
theorem d_MD_goes_114 : decode M_MD_goes.2.1 114 = .ok (.iload_n 3, 1) := by decide +kernel
theorem d_MD_goes_115 : decode M_MD_goes.2.1 115 = .ok (.iload 7, 2) := by decide +kernel
theorem d_MD_goes_117 : decode M_MD_goes.2.1 117 = .ok (.iadd, 1) := by decide +kernel
theorem d_MD_goes_118 : decode M_MD_goes.2.1 118 = .ok (.iaload, 1) := by decide +kernel
theorem d_MD_goes_119 : decode M_MD_goes.2.1 119 = .ok (.if_icmp .ne 7, 3) := by decide +kernel
theorem d_MD_goes_122 : decode M_MD_goes.2.1 122 = .ok (.iconst 1, 1) := by decide +kernel
theorem d_MD_goes_123 : decode M_MD_goes.2.1 123 = .ok (.goto 4, 3) := by decide +kernel
theorem d_MD_goes_126 : decode M_MD_goes.2.1 126 = .ok (.iconst 0, 1) := by decide +kernel
theorem d_MD_goes_127 : decode M_MD_goes.2.1 127 = .ok (.istore 6, 2) := by decide +kernel
theorem d_MD_goes_129 : decode M_MD_goes.2.1 129 = .ok (.iinc 7 1, 3) := by decide +kernel
theorem d_MD_goes_132 : decode M_MD_goes.2.1 132 = .ok (.goto (-77), 3) := by decide +kernel
theorem d_MD_goes_135 : decode M_MD_goes.2.1 135 = .ok (.iinc 4 1, 3) := by decide +kernel
theorem d_MD_goes_138 : decode M_MD_goes.2.1 138 = .ok (.goto (-125), 3) := by decide +kernel
theorem d_MD_goes_141 : decode M_MD_goes.2.1 141 = .ok (.iconst 1, 1) := by decide +kernel
theorem d_MD_goes_142 : decode M_MD_goes.2.1 142 = .ok (.ireturn, 1) := by decide +kernel
theorem k_MD_goes : x_kV M_MD_goes "QuestionReaderModel" 2 := ⟨⟨by decide, Or.inl ⟨w_1378, rfl⟩⟩, w_1377, ws_56, ⟨by decide, by decide⟩, by decide +kernel⟩
def M_MD_member : x_M := (⟨"QuestionReaderModel", "member", "()V"⟩, prog_14_method_26_code, 8, none, [])
theorem d_MD_member_0 : decode M_MD_member.2.1 0 = .ok (.aload_n 0, 1) := by decide +kernel
theorem d_MD_member_1 : decode M_MD_member.2.1 1 = .ok (.invokevirtual 133, 3) := by decide +kernel
theorem d_MD_member_4 : decode M_MD_member.2.1 4 = .ok (.aload_n 0, 1) := by decide +kernel
theorem d_MD_member_5 : decode M_MD_member.2.1 5 = .ok (.invokevirtual 146, 3) := by decide +kernel
theorem d_MD_member_8 : decode M_MD_member.2.1 8 = .ok (.ifCond .eq 15, 3) := by decide +kernel
theorem d_MD_member_11 : decode M_MD_member.2.1 11 = .ok (.aload_n 0, 1) := by decide +kernel
theorem d_MD_member_12 : decode M_MD_member.2.1 12 = .ok (.iconst 0, 1) := by decide +kernel
theorem d_MD_member_13 : decode M_MD_member.2.1 13 = .ok (.aload_n 0, 1) := by decide +kernel
theorem d_MD_member_14 : decode M_MD_member.2.1 14 = .ok (.getfield 150, 3) := by decide +kernel
theorem d_MD_member_17 : decode M_MD_member.2.1 17 = .ok (.invokevirtual 153, 3) := by decide +kernel
theorem d_MD_member_20 : decode M_MD_member.2.1 20 = .ok (.goto 4, 3) := by decide +kernel
theorem d_MD_member_23 : decode M_MD_member.2.1 23 = .ok (.iconst 0, 1) := by decide +kernel
theorem d_MD_member_24 : decode M_MD_member.2.1 24 = .ok (.istore_n 1, 1) := by decide +kernel
theorem d_MD_member_25 : decode M_MD_member.2.1 25 = .ok (.aload_n 0, 1) := by decide +kernel
theorem d_MD_member_26 : decode M_MD_member.2.1 26 = .ok (.iload_n 1, 1) := by decide +kernel
theorem d_MD_member_27 : decode M_MD_member.2.1 27 = .ok (.ifCond .lt 7, 3) := by decide +kernel
theorem d_MD_member_30 : decode M_MD_member.2.1 30 = .ok (.iconst 1, 1) := by decide +kernel
theorem d_MD_member_31 : decode M_MD_member.2.1 31 = .ok (.goto 4, 3) := by decide +kernel
theorem d_MD_member_34 : decode M_MD_member.2.1 34 = .ok (.iconst 0, 1) := by decide +kernel
theorem d_MD_member_35 : decode M_MD_member.2.1 35 = .ok (.iconst 5, 1) := by decide +kernel
theorem d_MD_member_36 : decode M_MD_member.2.1 36 = .ok (.aload_n 0, 1) := by decide +kernel
theorem d_MD_member_37 : decode M_MD_member.2.1 37 = .ok (.getfield 77, 3) := by decide +kernel
theorem d_MD_member_40 : decode M_MD_member.2.1 40 = .ok (.invokevirtual 117, 3) := by decide +kernel
theorem d_MD_member_43 : decode M_MD_member.2.1 43 = .ok (.ifCond .ne 4, 3) := by decide +kernel
theorem d_MD_member_46 : decode M_MD_member.2.1 46 = .ok (.return_, 1) := by decide +kernel
theorem d_MD_member_47 : decode M_MD_member.2.1 47 = .ok (.aload_n 0, 1) := by decide +kernel
theorem d_MD_member_48 : decode M_MD_member.2.1 48 = .ok (.getfield 28, 3) := by decide +kernel
theorem d_MD_member_51 : decode M_MD_member.2.1 51 = .ok (.iload_n 1, 1) := by decide +kernel
theorem d_MD_member_52 : decode M_MD_member.2.1 52 = .ok (.iaload, 1) := by decide +kernel
theorem d_MD_member_53 : decode M_MD_member.2.1 53 = .ok (.istore_n 2, 1) := by decide +kernel
theorem d_MD_member_54 : decode M_MD_member.2.1 54 = .ok (.iconst 1, 1) := by decide +kernel
theorem d_MD_member_55 : decode M_MD_member.2.1 55 = .ok (.istore_n 3, 1) := by decide +kernel
theorem d_MD_member_56 : decode M_MD_member.2.1 56 = .ok (.iload_n 3, 1) := by decide +kernel
theorem d_MD_member_57 : decode M_MD_member.2.1 57 = .ok (.ifCond .eq 291, 3) := by decide +kernel
theorem d_MD_member_60 : decode M_MD_member.2.1 60 = .ok (.aload_n 0, 1) := by decide +kernel
theorem d_MD_member_61 : decode M_MD_member.2.1 61 = .ok (.bipush 40, 2) := by decide +kernel
theorem d_MD_member_63 : decode M_MD_member.2.1 63 = .ok (.invokevirtual 166, 3) := by decide +kernel
theorem d_MD_member_66 : decode M_MD_member.2.1 66 = .ok (.ifCond .eq 32, 3) := by decide +kernel
theorem d_MD_member_69 : decode M_MD_member.2.1 69 = .ok (.aload_n 0, 1) := by decide +kernel
theorem d_MD_member_70 : decode M_MD_member.2.1 70 = .ok (.iload_n 2, 1) := by decide +kernel
theorem d_MD_member_71 : decode M_MD_member.2.1 71 = .ok (.sipush 1000, 3) := by decide +kernel
theorem d_MD_member_74 : decode M_MD_member.2.1 74 = .ok (.if_icmp .ge 7, 3) := by decide +kernel
theorem d_MD_member_77 : decode M_MD_member.2.1 77 = .ok (.iconst 1, 1) := by decide +kernel
theorem d_MD_member_78 : decode M_MD_member.2.1 78 = .ok (.goto 4, 3) := by decide +kernel
theorem d_MD_member_81 : decode M_MD_member.2.1 81 = .ok (.iconst 0, 1) := by decide +kernel
theorem d_MD_member_82 : decode M_MD_member.2.1 82 = .ok (.bipush 7, 2) := by decide +kernel
theorem d_MD_member_84 : decode M_MD_member.2.1 84 = .ok (.aload_n 0, 1) := by decide +kernel
theorem d_MD_member_85 : decode M_MD_member.2.1 85 = .ok (.getfield 77, 3) := by decide +kernel
theorem d_MD_member_88 : decode M_MD_member.2.1 88 = .ok (.invokevirtual 117, 3) := by decide +kernel
theorem d_MD_member_91 : decode M_MD_member.2.1 91 = .ok (.ifCond .eq 7, 3) := by decide +kernel
theorem d_MD_member_94 : decode M_MD_member.2.1 94 = .ok (.iconst 1, 1) := by decide +kernel
theorem d_MD_member_95 : decode M_MD_member.2.1 95 = .ok (.goto 4, 3) := by decide +kernel
theorem d_MD_member_98 : decode M_MD_member.2.1 98 = .ok (.iconst 0, 1) := by decide +kernel
theorem d_MD_member_99 : decode M_MD_member.2.1 99 = .ok (.istore 4, 2) := by decide +kernel
theorem d_MD_member_101 : decode M_MD_member.2.1 101 = .ok (.aload_n 0, 1) := by decide +kernel
theorem d_MD_member_102 : decode M_MD_member.2.1 102 = .ok (.getfield 77, 3) := by decide +kernel
theorem d_MD_member_105 : decode M_MD_member.2.1 105 = .ok (.istore 5, 2) := by decide +kernel
theorem d_MD_member_107 : decode M_MD_member.2.1 107 = .ok (.iconst 0, 1) := by decide +kernel
theorem d_MD_member_108 : decode M_MD_member.2.1 108 = .ok (.istore 6, 2) := by decide +kernel
theorem d_MD_member_110 : decode M_MD_member.2.1 110 = .ok (.iload 4, 2) := by decide +kernel
theorem d_MD_member_112 : decode M_MD_member.2.1 112 = .ok (.istore 7, 2) := by decide +kernel
theorem d_MD_member_114 : decode M_MD_member.2.1 114 = .ok (.iload 7, 2) := by decide +kernel
theorem d_MD_member_116 : decode M_MD_member.2.1 116 = .ok (.ifCond .eq 119, 3) := by decide +kernel
theorem d_MD_member_119 : decode M_MD_member.2.1 119 = .ok (.aload_n 0, 1) := by decide +kernel
theorem d_MD_member_120 : decode M_MD_member.2.1 120 = .ok (.invokevirtual 133, 3) := by decide +kernel
theorem d_MD_member_123 : decode M_MD_member.2.1 123 = .ok (.aload_n 0, 1) := by decide +kernel
theorem d_MD_member_124 : decode M_MD_member.2.1 124 = .ok (.aload_n 0, 1) := by decide +kernel
theorem d_MD_member_125 : decode M_MD_member.2.1 125 = .ok (.getfield 86, 3) := by decide +kernel
theorem d_MD_member_128 : decode M_MD_member.2.1 128 = .ok (.iconst 2, 1) := by decide +kernel
theorem d_MD_member_129 : decode M_MD_member.2.1 129 = .ok (.if_icmp .ne 7, 3) := by decide +kernel
theorem d_MD_member_132 : decode M_MD_member.2.1 132 = .ok (.iconst 1, 1) := by decide +kernel
theorem d_MD_member_133 : decode M_MD_member.2.1 133 = .ok (.goto 4, 3) := by decide +kernel
theorem d_MD_member_136 : decode M_MD_member.2.1 136 = .ok (.iconst 0, 1) := by decide +kernel
theorem d_MD_member_137 : decode M_MD_member.2.1 137 = .ok (.invokevirtual 139, 3) := by decide +kernel
theorem d_MD_member_140 : decode M_MD_member.2.1 140 = .ok (.istore 4, 2) := by decide +kernel
theorem d_MD_member_142 : decode M_MD_member.2.1 142 = .ok (.iload 4, 2) := by decide +kernel
theorem d_MD_member_144 : decode M_MD_member.2.1 144 = .ok (.ifCond .eq 35, 3) := by decide +kernel
theorem d_MD_member_147 : decode M_MD_member.2.1 147 = .ok (.iload 6, 2) := by decide +kernel
theorem d_MD_member_149 : decode M_MD_member.2.1 149 = .ok (.aload_n 0, 1) := by decide +kernel
theorem d_MD_member_150 : decode M_MD_member.2.1 150 = .ok (.getfield 24, 3) := by decide +kernel
theorem d_MD_member_153 : decode M_MD_member.2.1 153 = .ok (.iload_n 1, 1) := by decide +kernel
theorem d_MD_member_154 : decode M_MD_member.2.1 154 = .ok (.iaload, 1) := by decide +kernel
theorem d_MD_member_155 : decode M_MD_member.2.1 155 = .ok (.if_icmp .ge 24, 3) := by decide +kernel
theorem d_MD_member_158 : decode M_MD_member.2.1 158 = .ok (.aload_n 0, 1) := by decide +kernel
theorem d_MD_member_159 : decode M_MD_member.2.1 159 = .ok (.getfield 31, 3) := by decide +kernel
theorem d_MD_member_162 : decode M_MD_member.2.1 162 = .ok (.sipush 4000, 3) := by decide +kernel
theorem d_MD_member_165 : decode M_MD_member.2.1 165 = .ok (.iload_n 1, 1) := by decide +kernel
theorem d_MD_member_166 : decode M_MD_member.2.1 166 = .ok (.imul, 1) := by decide +kernel
theorem d_MD_member_167 : decode M_MD_member.2.1 167 = .ok (.iconst 4, 1) := by decide +kernel
theorem d_MD_member_168 : decode M_MD_member.2.1 168 = .ok (.iload_n 2, 1) := by decide +kernel
theorem d_MD_member_169 : decode M_MD_member.2.1 169 = .ok (.imul, 1) := by decide +kernel
theorem d_MD_member_170 : decode M_MD_member.2.1 170 = .ok (.iadd, 1) := by decide +kernel
theorem d_MD_member_171 : decode M_MD_member.2.1 171 = .ok (.iload 6, 2) := by decide +kernel
theorem d_MD_member_173 : decode M_MD_member.2.1 173 = .ok (.iadd, 1) := by decide +kernel
theorem d_MD_member_174 : decode M_MD_member.2.1 174 = .ok (.aload_n 0, 1) := by decide +kernel
theorem d_MD_member_175 : decode M_MD_member.2.1 175 = .ok (.getfield 121, 3) := by decide +kernel
theorem d_MD_member_178 : decode M_MD_member.2.1 178 = .ok (.iastore, 1) := by decide +kernel
theorem d_MD_member_179 : decode M_MD_member.2.1 179 = .ok (.iinc 6 1, 3) := by decide +kernel
theorem d_MD_member_182 : decode M_MD_member.2.1 182 = .ok (.aload_n 0, 1) := by decide +kernel
theorem d_MD_member_183 : decode M_MD_member.2.1 183 = .ok (.invokevirtual 133, 3) := by decide +kernel
theorem d_MD_member_186 : decode M_MD_member.2.1 186 = .ok (.aload_n 0, 1) := by decide +kernel
theorem d_MD_member_187 : decode M_MD_member.2.1 187 = .ok (.aload_n 0, 1) := by decide +kernel
theorem d_MD_member_188 : decode M_MD_member.2.1 188 = .ok (.bipush 44, 2) := by decide +kernel
theorem d_MD_member_190 : decode M_MD_member.2.1 190 = .ok (.invokevirtual 136, 3) := by decide +kernel
theorem d_MD_member_193 : decode M_MD_member.2.1 193 = .ok (.ifCond .ne 12, 3) := by decide +kernel
theorem d_MD_member_196 : decode M_MD_member.2.1 196 = .ok (.aload_n 0, 1) := by decide +kernel
theorem d_MD_member_197 : decode M_MD_member.2.1 197 = .ok (.bipush 41, 2) := by decide +kernel
theorem d_MD_member_199 : decode M_MD_member.2.1 199 = .ok (.invokevirtual 136, 3) := by decide +kernel
theorem d_MD_member_202 : decode M_MD_member.2.1 202 = .ok (.ifCond .eq 7, 3) := by decide +kernel
theorem d_MD_member_205 : decode M_MD_member.2.1 205 = .ok (.iconst 1, 1) := by decide +kernel
theorem d_MD_member_206 : decode M_MD_member.2.1 206 = .ok (.goto 4, 3) := by decide +kernel
theorem d_MD_member_209 : decode M_MD_member.2.1 209 = .ok (.iconst 0, 1) := by decide +kernel
theorem d_MD_member_210 : decode M_MD_member.2.1 210 = .ok (.invokevirtual 139, 3) := by decide +kernel
theorem d_MD_member_213 : decode M_MD_member.2.1 213 = .ok (.ifCond .eq 16, 3) := by decide +kernel
theorem d_MD_member_216 : decode M_MD_member.2.1 216 = .ok (.aload_n 0, 1) := by decide +kernel
theorem d_MD_member_217 : decode M_MD_member.2.1 217 = .ok (.bipush 44, 2) := by decide +kernel
theorem d_MD_member_219 : decode M_MD_member.2.1 219 = .ok (.invokevirtual 136, 3) := by decide +kernel
theorem d_MD_member_222 : decode M_MD_member.2.1 222 = .ok (.ifCond .eq 7, 3) := by decide +kernel
theorem d_MD_member_225 : decode M_MD_member.2.1 225 = .ok (.iconst 1, 1) := by decide +kernel
theorem d_MD_member_226 : decode M_MD_member.2.1 226 = .ok (.goto 4, 3) := by decide +kernel
theorem d_MD_member_229 : decode M_MD_member.2.1 229 = .ok (.iconst 0, 1) := by decide +kernel
theorem d_MD_member_230 : decode M_MD_member.2.1 230 = .ok (.istore 7, 2) := by decide +kernel
theorem d_MD_member_232 : decode M_MD_member.2.1 232 = .ok (.goto (-118), 3) := by decide +kernel
theorem d_MD_member_235 : decode M_MD_member.2.1 235 = .ok (.aload_n 0, 1) := by decide +kernel
theorem d_MD_member_236 : decode M_MD_member.2.1 236 = .ok (.getfield 67, 3) := by decide +kernel
theorem d_MD_member_239 : decode M_MD_member.2.1 239 = .ok (.ifCond .ne 54, 3) := by decide +kernel
theorem d_MD_member_242 : decode M_MD_member.2.1 242 = .ok (.aload_n 0, 1) := by decide +kernel
theorem d_MD_member_243 : decode M_MD_member.2.1 243 = .ok (.iload 6, 2) := by decide +kernel
theorem d_MD_member_245 : decode M_MD_member.2.1 245 = .ok (.aload_n 0, 1) := by decide +kernel
theorem d_MD_member_246 : decode M_MD_member.2.1 246 = .ok (.getfield 24, 3) := by decide +kernel
theorem d_MD_member_249 : decode M_MD_member.2.1 249 = .ok (.iload_n 1, 1) := by decide +kernel
theorem d_MD_member_250 : decode M_MD_member.2.1 250 = .ok (.iaload, 1) := by decide +kernel
theorem d_MD_member_251 : decode M_MD_member.2.1 251 = .ok (.if_icmp .ne 7, 3) := by decide +kernel
theorem d_MD_member_254 : decode M_MD_member.2.1 254 = .ok (.iconst 1, 1) := by decide +kernel
theorem d_MD_member_255 : decode M_MD_member.2.1 255 = .ok (.goto 4, 3) := by decide +kernel
theorem d_MD_member_258 : decode M_MD_member.2.1 258 = .ok (.iconst 0, 1) := by decide +kernel
theorem d_MD_member_259 : decode M_MD_member.2.1 259 = .ok (.bipush 7, 2) := by decide +kernel
theorem d_MD_member_261 : decode M_MD_member.2.1 261 = .ok (.iload 5, 2) := by decide +kernel
theorem d_MD_member_263 : decode M_MD_member.2.1 263 = .ok (.invokevirtual 117, 3) := by decide +kernel
theorem d_MD_member_266 : decode M_MD_member.2.1 266 = .ok (.ifCond .eq 24, 3) := by decide +kernel
theorem d_MD_member_269 : decode M_MD_member.2.1 269 = .ok (.aload_n 0, 1) := by decide +kernel
theorem d_MD_member_270 : decode M_MD_member.2.1 270 = .ok (.aload_n 0, 1) := by decide +kernel
theorem d_MD_member_271 : decode M_MD_member.2.1 271 = .ok (.iload_n 1, 1) := by decide +kernel
theorem d_MD_member_272 : decode M_MD_member.2.1 272 = .ok (.iload_n 2, 1) := by decide +kernel
theorem d_MD_member_273 : decode M_MD_member.2.1 273 = .ok (.invokevirtual 169, 3) := by decide +kernel
theorem d_MD_member_276 : decode M_MD_member.2.1 276 = .ok (.bipush 9, 2) := by decide +kernel
theorem d_MD_member_278 : decode M_MD_member.2.1 278 = .ok (.iload 5, 2) := by decide +kernel
theorem d_MD_member_280 : decode M_MD_member.2.1 280 = .ok (.invokevirtual 117, 3) := by decide +kernel
theorem d_MD_member_283 : decode M_MD_member.2.1 283 = .ok (.ifCond .eq 7, 3) := by decide +kernel
theorem d_MD_member_286 : decode M_MD_member.2.1 286 = .ok (.iconst 1, 1) := by decide +kernel
theorem d_MD_member_287 : decode M_MD_member.2.1 287 = .ok (.goto 4, 3) := by decide +kernel
theorem d_MD_member_290 : decode M_MD_member.2.1 290 = .ok (.iconst 0, 1) := by decide +kernel
theorem d_MD_member_291 : decode M_MD_member.2.1 291 = .ok (.istore 4, 2) := by decide +kernel
theorem d_MD_member_293 : decode M_MD_member.2.1 293 = .ok (.iinc 2 1, 3) := by decide +kernel
theorem d_MD_member_296 : decode M_MD_member.2.1 296 = .ok (.aload_n 0, 1) := by decide +kernel
theorem d_MD_member_297 : decode M_MD_member.2.1 297 = .ok (.invokevirtual 133, 3) := by decide +kernel
theorem d_MD_member_300 : decode M_MD_member.2.1 300 = .ok (.aload_n 0, 1) := by decide +kernel
theorem d_MD_member_301 : decode M_MD_member.2.1 301 = .ok (.aload_n 0, 1) := by decide +kernel
theorem d_MD_member_302 : decode M_MD_member.2.1 302 = .ok (.bipush 44, 2) := by decide +kernel
theorem d_MD_member_304 : decode M_MD_member.2.1 304 = .ok (.invokevirtual 136, 3) := by decide +kernel
theorem d_MD_member_307 : decode M_MD_member.2.1 307 = .ok (.ifCond .ne 12, 3) := by decide +kernel
theorem d_MD_member_310 : decode M_MD_member.2.1 310 = .ok (.aload_n 0, 1) := by decide +kernel
theorem d_MD_member_311 : decode M_MD_member.2.1 311 = .ok (.bipush 59, 2) := by decide +kernel
theorem d_MD_member_313 : decode M_MD_member.2.1 313 = .ok (.invokevirtual 136, 3) := by decide +kernel
theorem d_MD_member_316 : decode M_MD_member.2.1 316 = .ok (.ifCond .eq 7, 3) := by decide +kernel
theorem d_MD_member_319 : decode M_MD_member.2.1 319 = .ok (.iconst 1, 1) := by decide +kernel
theorem d_MD_member_320 : decode M_MD_member.2.1 320 = .ok (.goto 4, 3) := by decide +kernel
theorem d_MD_member_323 : decode M_MD_member.2.1 323 = .ok (.iconst 0, 1) := by decide +kernel
theorem d_MD_member_324 : decode M_MD_member.2.1 324 = .ok (.invokevirtual 139, 3) := by decide +kernel
theorem d_MD_member_327 : decode M_MD_member.2.1 327 = .ok (.ifCond .eq 16, 3) := by decide +kernel
theorem d_MD_member_330 : decode M_MD_member.2.1 330 = .ok (.aload_n 0, 1) := by decide +kernel
theorem d_MD_member_331 : decode M_MD_member.2.1 331 = .ok (.bipush 44, 2) := by decide +kernel
theorem d_MD_member_333 : decode M_MD_member.2.1 333 = .ok (.invokevirtual 136, 3) := by decide +kernel
theorem d_MD_member_336 : decode M_MD_member.2.1 336 = .ok (.ifCond .eq 7, 3) := by decide +kernel
theorem d_MD_member_339 : decode M_MD_member.2.1 339 = .ok (.iconst 1, 1) := by decide +kernel
theorem d_MD_member_340 : decode M_MD_member.2.1 340 = .ok (.goto 4, 3) := by decide +kernel
theorem d_MD_member_343 : decode M_MD_member.2.1 343 = .ok (.iconst 0, 1) := by decide +kernel
theorem d_MD_member_344 : decode M_MD_member.2.1 344 = .ok (.istore_n 3, 1) := by decide +kernel
theorem d_MD_member_345 : decode M_MD_member.2.1 345 = .ok (.goto (-289), 3) := by decide +kernel
theorem d_MD_member_348 : decode M_MD_member.2.1 348 = .ok (.aload_n 0, 1) := by decide +kernel
theorem d_MD_member_349 : decode M_MD_member.2.1 349 = .ok (.getfield 28, 3) := by decide +kernel
theorem d_MD_member_352 : decode M_MD_member.2.1 352 = .ok (.iload_n 1, 1) := by decide +kernel
theorem d_MD_member_353 : decode M_MD_member.2.1 353 = .ok (.aload_n 0, 1) := by decide +kernel
theorem d_MD_member_354 : decode M_MD_member.2.1 354 = .ok (.getfield 67, 3) := by decide +kernel
theorem d_MD_member_357 : decode M_MD_member.2.1 357 = .ok (.ifCond .ne 7, 3) := by decide +kernel
theorem d_MD_member_360 : decode M_MD_member.2.1 360 = .ok (.iload_n 2, 1) := by decide +kernel
theorem d_MD_member_361 : decode M_MD_member.2.1 361 = .ok (.goto 9, 3) := by decide +kernel
theorem d_MD_member_364 : decode M_MD_member.2.1 364 = .ok (.aload_n 0, 1) := by decide +kernel
theorem d_MD_member_365 : decode M_MD_member.2.1 365 = .ok (.getfield 28, 3) := by decide +kernel
theorem d_MD_member_368 : decode M_MD_member.2.1 368 = .ok (.iload_n 1, 1) := by decide +kernel
theorem d_MD_member_369 : decode M_MD_member.2.1 369 = .ok (.iaload, 1) := by decide +kernel
theorem d_MD_member_370 : decode M_MD_member.2.1 370 = .ok (.iastore, 1) := by decide +kernel
theorem d_MD_member_371 : decode M_MD_member.2.1 371 = .ok (.return_, 1) := by decide +kernel
theorem k_MD_member : x_kV M_MD_member "QuestionReaderModel" 0 := ⟨⟨by decide, Or.inl ⟨w_1374, rfl⟩⟩, w_1373, ws_55, ⟨by decide, by decide⟩, by decide +kernel⟩
def B_MD_among_2   : Nat → Int32 → Int32 → Int32 → x_m → Option (Int32 × x_m)
  | 0, _, _, _, _ => none
  | f_ + 1, l1, l2, l3, m => (if l2 ≤ l3 then some ((-1), m) else ((F_MD_isName (l1 + l3) m).bind fun r11 => (if r11.1 = 0 then (B_MD_among_2 f_) l1 l2 (l3 + 1) r11.2 else some (l3, r11.2))))
theorem b_MD_among_2 {G : x_G} {ex : Bool} {r : Int32 × x_m}   : ∀ (f_ : Nat) (l1 : Int32) (l2 : Int32) (l3 : Int32) (m : x_m), B_MD_among_2 f_ l1 l2 l3 m = some r → x_W G M_MD_among (x_rd 1) (x_Q G (x_rd 1) ex (x_pi r)) ex x_np (x_hp m) 0 0 [(0, .ref 387), (1, .int l1), (2, .int l2), (3, .int l3)] [] 2 := by
  intro f_
  induction f_ with
  | zero => intro l1 l2 l3 m h; exact nomatch h
  | succ f_ ih =>
    intro l1 l2 l3 m h
    rw [B_MD_among_2] at h
    have hK2 := ih
    refine x_iload_n d_MD_among_2 rfl rfl ?_
    refine x_iload_n d_MD_among_3 rfl rfl ?_
    refine x_icmp_ge (tgt := 25) d_MD_among_4 (by decide) (fun c_ => ?_) (fun c_ => ?_)
    · replace h := x_it h c_
      refine x_iconst (v := (-1)) d_MD_among_25 (by decide) ?_
      cases h
      exact x_ri d_MD_among_26 rfl rfl
    · replace h := x_ie h c_
      refine x_aload_n d_MD_among_7 rfl rfl ?_
      refine x_iload_n d_MD_among_8 rfl rfl ?_
      refine x_iload_n d_MD_among_9 rfl rfl ?_
      refine x_iadd d_MD_among_10 ?_
      obtain ⟨r11, e11, h⟩ := x_bd h
      refine x_cVi (M2 := M_MD_isName) (As := [.int (l1 + l3)]) (st := []) d_MD_among_11 w_1351 k_MD_isName (c_MD_isName e11) rfl sh_MD hp_MD rfl ⟨Nat.le_of_ble_eq_true rfl, Nat.le_of_ble_eq_true rfl⟩ (Nat.le_of_ble_eq_true rfl) (Nat.le_of_ble_eq_true rfl) rfl ?_
      refine x_if_eq (tgt := 19) d_MD_among_14 (by decide) (fun c_ => ?_) (fun c_ => ?_)
      · replace h := x_it h c_
        refine x_iinc (v := l3 + 1) (lv2 := [(0, .ref 387), (1, .int l1), (2, .int l2), (3, .int (l3 + 1))]) d_MD_among_19 rfl rfl (by decide) rfl ?_
        refine x_goto (tgt := 2) d_MD_among_22 (by decide) ?_
        exact hK2 _ _ _ _ h
      · replace h := x_ie h c_
        refine x_iload_n d_MD_among_17 rfl rfl ?_
        cases h
        exact x_ri d_MD_among_18 rfl rfl
def F_MD_among  (a1 : Int32) (a2 : Int32) (m : x_m) : Option (Int32 × x_m) := B_MD_among_2 x_fu a1 a2 0 m
theorem c_MD_among {G : x_G} {ex : Bool} {r : Int32 × x_m}  {a1 : Int32} {a2 : Int32} {m : x_m} (h : F_MD_among a1 a2 m = some r) : x_R G M_MD_among (x_rd 1) ex [.ref 387, .int a1, .int a2] x_np (x_hp m) (x_pi r) := by
  unfold F_MD_among at h
  show x_W G M_MD_among (x_rd 1) (x_Q G (x_rd 1) ex (x_pi r)) ex x_np (x_hp m) 0 0 [(0, .ref 387), (1, .int a1), (2, .int a2)] [] 0
  refine x_iconst (v := 0) d_MD_among_0 (by decide) ?_
  refine x_istore_n (lv2 := [(0, .ref 387), (1, .int a1), (2, .int a2), (3, .int 0)]) d_MD_among_1 rfl (by decide) rfl ?_
  exact b_MD_among_2 _ _ _ _ _ h
def B_MD_isSign_21   (s0 : Int32) (m : x_m) : Option (Int32 × x_m) := (if x_b1 s0 = true then some (s0, m) else none)
theorem b_MD_isSign_21 {G : x_G} {ex : Bool} {r : Int32 × x_m}   {s0 : Int32} {m : x_m} (h : B_MD_isSign_21 s0 m = some r) : x_W G M_MD_isSign (x_rd 0) (x_Q G (x_rd 0) ex (x_pi r)) ex x_np (x_hp m) 0 0 [] [.int s0] 21 := by
  unfold B_MD_isSign_21 at h
  obtain ⟨g_21, h⟩ := x_gd h
  cases h
  exact x_ri d_MD_isSign_21 rfl (x_b1_ok g_21).1
def B_MD_isSign_20    (m : x_m) : Option (Int32 × x_m) := B_MD_isSign_21 0 m
theorem b_MD_isSign_20 {G : x_G} {ex : Bool} {r : Int32 × x_m}    {m : x_m} (h : B_MD_isSign_20 m = some r) : x_W G M_MD_isSign (x_rd 0) (x_Q G (x_rd 0) ex (x_pi r)) ex x_np (x_hp m) 0 0 [] [] 20 := by
  unfold B_MD_isSign_20 at h
  refine x_iconst (v := 0) d_MD_isSign_20 (by decide) ?_
  exact b_MD_isSign_21 h
def F_MD_isSign  (a1 : Int32) (m : x_m) : Option (Int32 × x_m) := (if (m.1 387 9) = 3 then (if (m.1 387 12) = a1 then B_MD_isSign_21 1 m else B_MD_isSign_20 m) else B_MD_isSign_20 m)
theorem c_MD_isSign {G : x_G} {ex : Bool} {r : Int32 × x_m}  {a1 : Int32} {m : x_m} (h : F_MD_isSign a1 m = some r) : x_R G M_MD_isSign (x_rd 0) ex [.ref 387, .int a1] x_np (x_hp m) (x_pi r) := by
  unfold F_MD_isSign at h
  show x_W G M_MD_isSign (x_rd 0) (x_Q G (x_rd 0) ex (x_pi r)) ex x_np (x_hp m) 0 0 [(0, .ref 387), (1, .int a1)] [] 0
  refine x_aload_n d_MD_isSign_0 rfl rfl ?_
  refine x_gI d_MD_isSign_1 (f_MD_86 rfl) sh_MD hp_MD rfl ?_
  refine x_iconst (v := 3) d_MD_isSign_4 (by decide) ?_
  refine x_icmp_ne (tgt := 20) d_MD_isSign_5 (by decide) (fun c_ => ?_) (fun c_ => ?_)
  · replace h := x_ie h c_
    refine x_sbk [] (lv2 := []) rfl ?_; exact b_MD_isSign_20 h
  · replace h := x_it h c_
    refine x_aload_n d_MD_isSign_8 rfl rfl ?_
    refine x_gI d_MD_isSign_9 (f_MD_83 rfl) sh_MD hp_MD rfl ?_
    refine x_iload_n d_MD_isSign_12 rfl rfl ?_
    refine x_icmp_ne (tgt := 20) d_MD_isSign_13 (by decide) (fun c_ => ?_) (fun c_ => ?_)
    · replace h := x_ie h c_
      refine x_sbk [] (lv2 := []) rfl ?_; exact b_MD_isSign_20 h
    · replace h := x_it h c_
      refine x_iconst (v := 1) d_MD_isSign_16 (by decide) ?_
      refine x_goto (tgt := 21) d_MD_isSign_17 (by decide) ?_
      refine x_sbk [] (lv2 := []) rfl ?_; exact b_MD_isSign_21 h
def B_MD_keep_17   : Nat → Int32 → Int32 → x_m → Option (x_m)
  | 0, _, _, _ => none
  | f_ + 1, l1, l2, m => (if x_ix l1 48 = true then (if (m.2.1 394 l1.toNatClampNeg) ≤ l2 then some m else (if x_ix ((m.1 387 8) + l2) 65536 = true then (if x_ix ((40 * l1) + l2) 1920 = true then (B_MD_keep_17 f_) l1 (l2 + 1) (x_wA m 393 ((40 * l1) + l2).toNatClampNeg (vp_nar .byte (m.2.1 388 ((m.1 387 8) + l2).toNatClampNeg))) else none) else none)) else none)
theorem b_MD_keep_17 {G : x_G} {ex : Bool} {r : x_m}   : ∀ (f_ : Nat) (l1 : Int32) (l2 : Int32) (m : x_m), B_MD_keep_17 f_ l1 l2 m = some r → x_W G M_MD_keep (x_rd 0) (x_Q G (x_rd 0) ex (x_pv r)) ex x_np (x_hp m) 0 0 [(0, .ref 387), (1, .int l1), (2, .int l2)] [] 17 := by
  intro f_
  induction f_ with
  | zero => intro l1 l2 m h; exact nomatch h
  | succ f_ ih =>
    intro l1 l2 m h
    rw [B_MD_keep_17] at h
    have hK17 := ih
    refine x_iload_n d_MD_keep_17 rfl rfl ?_
    refine x_aload_n d_MD_keep_18 rfl rfl ?_
    refine x_gC d_MD_keep_19 (f_MD_40 rfl) sh_MD hp_MD rfl ?_
    refine x_iload_n d_MD_keep_22 rfl rfl ?_
    obtain ⟨g_23, h⟩ := x_gd h
    refine x_lI d_MD_keep_23 rfl sa_MD_lengths ha_MD_lengths g_23 ?_
    refine x_icmp_ge (tgt := 55) d_MD_keep_24 (by decide) (fun c_ => ?_) (fun c_ => ?_)
    · replace h := x_it h c_
      cases h
      exact x_rv d_MD_keep_55 rfl
    · replace h := x_ie h c_
      refine x_aload_n d_MD_keep_27 rfl rfl ?_
      refine x_gC d_MD_keep_28 (f_MD_37 rfl) sh_MD hp_MD rfl ?_
      refine x_bipush (v := 40) d_MD_keep_31 (by decide) ?_
      refine x_iload_n d_MD_keep_33 rfl rfl ?_
      refine x_imul d_MD_keep_34 ?_
      refine x_iload_n d_MD_keep_35 rfl rfl ?_
      refine x_iadd d_MD_keep_36 ?_
      refine x_aload_n d_MD_keep_37 rfl rfl ?_
      refine x_gC d_MD_keep_38 (f_MD_16 rfl) sh_MD hp_MD rfl ?_
      refine x_aload_n d_MD_keep_41 rfl rfl ?_
      refine x_gI d_MD_keep_42 (f_MD_77 rfl) sh_MD hp_MD rfl ?_
      refine x_iload_n d_MD_keep_45 rfl rfl ?_
      refine x_iadd d_MD_keep_46 ?_
      obtain ⟨g_47, h⟩ := x_gd h
      refine x_lB d_MD_keep_47 rfl sa_MD_text ha_MD_text g_47 ?_
      obtain ⟨g_48, h⟩ := x_gd h
      refine x_sB d_MD_keep_48 rfl sa_MD_letters ha_MD_letters g_48 ?_
      refine x_iinc (v := l2 + 1) (lv2 := [(0, .ref 387), (1, .int l1), (2, .int (l2 + 1))]) d_MD_keep_49 rfl rfl (by decide) rfl ?_
      refine x_goto (tgt := 17) d_MD_keep_52 (by decide) ?_
      exact hK17 _ _ _ h
def F_MD_keep  (a1 : Int32) (m : x_m) : Option (x_m) := (if x_ix a1 48 = true then B_MD_keep_17 x_fu a1 0 (x_wA m 394 a1.toNatClampNeg ((m.1 387 7) - (m.1 387 8))) else none)
theorem c_MD_keep {G : x_G} {ex : Bool} {r : x_m}  {a1 : Int32} {m : x_m} (h : F_MD_keep a1 m = some r) : x_R G M_MD_keep (x_rd 0) ex [.ref 387, .int a1] x_np (x_hp m) (x_pv r) := by
  unfold F_MD_keep at h
  show x_W G M_MD_keep (x_rd 0) (x_Q G (x_rd 0) ex (x_pv r)) ex x_np (x_hp m) 0 0 [(0, .ref 387), (1, .int a1)] [] 0
  refine x_aload_n d_MD_keep_0 rfl rfl ?_
  refine x_gC d_MD_keep_1 (f_MD_40 rfl) sh_MD hp_MD rfl ?_
  refine x_iload_n d_MD_keep_4 rfl rfl ?_
  refine x_aload_n d_MD_keep_5 rfl rfl ?_
  refine x_gI d_MD_keep_6 (f_MD_70 rfl) sh_MD hp_MD rfl ?_
  refine x_aload_n d_MD_keep_9 rfl rfl ?_
  refine x_gI d_MD_keep_10 (f_MD_77 rfl) sh_MD hp_MD rfl ?_
  refine x_isub d_MD_keep_13 ?_
  obtain ⟨g_14, h⟩ := x_gd h
  refine x_sI d_MD_keep_14 rfl sa_MD_lengths ha_MD_lengths g_14 ?_
  refine x_iconst (v := 0) d_MD_keep_15 (by decide) ?_
  refine x_istore_n (lv2 := [(0, .ref 387), (1, .int a1), (2, .int 0)]) d_MD_keep_16 rfl (by decide) rfl ?_
  exact b_MD_keep_17 _ _ _ _ h
def B_MD_must_14   (s0 : Int32) (s1 : Int32) (m : x_m) : Option (Int32 × x_m) := ((F_MD_want s1 s0 (m.1 387 8) m).bind fun r18 => (if x_b1 r18.1 = true then some (r18.1, r18.2) else none))
theorem b_MD_must_14 {G : x_G} {ex : Bool} {r : Int32 × x_m}   {s0 : Int32} {s1 : Int32} {m : x_m} (h : B_MD_must_14 s0 s1 m = some r) : x_W G M_MD_must (x_rd 1) (x_Q G (x_rd 1) ex (x_pi r)) ex x_np (x_hp m) 0 0 [(0, .ref 387)] [.int s0, .int s1, .ref 387] 14 := by
  unfold B_MD_must_14 at h
  refine x_aload_n d_MD_must_14 rfl rfl ?_
  refine x_gI d_MD_must_15 (f_MD_77 rfl) sh_MD hp_MD rfl ?_
  obtain ⟨r18, e18, h⟩ := x_bd h
  refine x_cVi (M2 := M_MD_want) (As := [.int s1, .int s0, .int (m.1 387 8)]) (st := []) d_MD_must_18 w_1315 k_MD_want (c_MD_want e18) rfl sh_MD hp_MD rfl ⟨Nat.le_of_ble_eq_true rfl, Nat.le_of_ble_eq_true rfl⟩ (Nat.le_of_ble_eq_true rfl) (Nat.le_of_ble_eq_true rfl) rfl ?_
  obtain ⟨g_21, h⟩ := x_gd h
  cases h
  exact x_ri d_MD_must_21 rfl (x_b1_ok g_21).1
def F_MD_must  (a1 : Int32) (m : x_m) : Option (Int32 × x_m) := (if (m.1 387 9) = 0 then B_MD_must_14 3 a1 m else B_MD_must_14 4 a1 m)
theorem c_MD_must {G : x_G} {ex : Bool} {r : Int32 × x_m}  {a1 : Int32} {m : x_m} (h : F_MD_must a1 m = some r) : x_R G M_MD_must (x_rd 1) ex [.ref 387, .int a1] x_np (x_hp m) (x_pi r) := by
  unfold F_MD_must at h
  show x_W G M_MD_must (x_rd 1) (x_Q G (x_rd 1) ex (x_pi r)) ex x_np (x_hp m) 0 0 [(0, .ref 387), (1, .int a1)] [] 0
  refine x_aload_n d_MD_must_0 rfl rfl ?_
  refine x_iload_n d_MD_must_1 rfl rfl ?_
  refine x_aload_n d_MD_must_2 rfl rfl ?_
  refine x_gI d_MD_must_3 (f_MD_86 rfl) sh_MD hp_MD rfl ?_
  refine x_if_ne (tgt := 13) d_MD_must_6 (by decide) (fun c_ => ?_) (fun c_ => ?_)
  · replace h := x_ie h c_
    refine x_iconst (v := 4) d_MD_must_13 (by decide) ?_
    refine x_sbk [0] (lv2 := [(0, .ref 387)]) rfl ?_; exact b_MD_must_14 h
  · replace h := x_it h c_
    refine x_iconst (v := 3) d_MD_must_9 (by decide) ?_
    refine x_goto (tgt := 14) d_MD_must_10 (by decide) ?_
    refine x_sbk [0] (lv2 := [(0, .ref 387)]) rfl ?_; exact b_MD_must_14 h
def B_MD_name_63   (s0 : Int32) (m : x_m) : Option (Int32 × x_m) := (if x_b1 s0 = true then some (s0, m) else none)
theorem b_MD_name_63 {G : x_G} {ex : Bool} {r : Int32 × x_m}   {s0 : Int32} {m : x_m} (h : B_MD_name_63 s0 m = some r) : x_W G M_MD_name (x_rd 2) (x_Q G (x_rd 2) ex (x_pi r)) ex x_np (x_hp m) 0 0 [] [.int s0] 63 := by
  unfold B_MD_name_63 at h
  obtain ⟨g_63, h⟩ := x_gd h
  cases h
  exact x_ri d_MD_name_63 rfl (x_b1_ok g_63).1
def B_MD_name_62    (m : x_m) : Option (Int32 × x_m) := B_MD_name_63 0 m
theorem b_MD_name_62 {G : x_G} {ex : Bool} {r : Int32 × x_m}    {m : x_m} (h : B_MD_name_62 m = some r) : x_W G M_MD_name (x_rd 2) (x_Q G (x_rd 2) ex (x_pi r)) ex x_np (x_hp m) 0 0 [] [] 62 := by
  unfold B_MD_name_62 at h
  refine x_iconst (v := 0) d_MD_name_62 (by decide) ?_
  exact b_MD_name_63 h
def B_MD_name_47   (s0 : Int32) (m : x_m) : Option (Int32 × x_m) := ((F_MD_want s0 5 (m.1 387 8) m).bind fun r52 => (if r52.1 = 0 then B_MD_name_62 r52.2 else B_MD_name_63 1 r52.2))
theorem b_MD_name_47 {G : x_G} {ex : Bool} {r : Int32 × x_m}   {s0 : Int32} {m : x_m} (h : B_MD_name_47 s0 m = some r) : x_W G M_MD_name (x_rd 2) (x_Q G (x_rd 2) ex (x_pi r)) ex x_np (x_hp m) 0 0 [(0, .ref 387)] [.int s0, .ref 387] 47 := by
  unfold B_MD_name_47 at h
  refine x_iconst (v := 5) d_MD_name_47 (by decide) ?_
  refine x_aload_n d_MD_name_48 rfl rfl ?_
  refine x_gI d_MD_name_49 (f_MD_77 rfl) sh_MD hp_MD rfl ?_
  obtain ⟨r52, e52, h⟩ := x_bd h
  refine x_cVi (M2 := M_MD_want) (As := [.int s0, .int 5, .int (m.1 387 8)]) (st := []) d_MD_name_52 w_1315 k_MD_want (c_MD_want e52) rfl sh_MD hp_MD rfl ⟨Nat.le_of_ble_eq_true rfl, Nat.le_of_ble_eq_true rfl⟩ (Nat.le_of_ble_eq_true rfl) (Nat.le_of_ble_eq_true rfl) rfl ?_
  refine x_if_eq (tgt := 62) d_MD_name_55 (by decide) (fun c_ => ?_) (fun c_ => ?_)
  · replace h := x_it h c_
    refine x_sbk [] (lv2 := []) rfl ?_; exact b_MD_name_62 h
  · replace h := x_ie h c_
    refine x_iconst (v := 1) d_MD_name_58 (by decide) ?_
    refine x_goto (tgt := 63) d_MD_name_59 (by decide) ?_
    refine x_sbk [] (lv2 := []) rfl ?_; exact b_MD_name_63 h
def B_MD_name_46    (m : x_m) : Option (Int32 × x_m) := B_MD_name_47 0 m
theorem b_MD_name_46 {G : x_G} {ex : Bool} {r : Int32 × x_m}    {m : x_m} (h : B_MD_name_46 m = some r) : x_W G M_MD_name (x_rd 2) (x_Q G (x_rd 2) ex (x_pi r)) ex x_np (x_hp m) 0 0 [(0, .ref 387)] [.ref 387] 46 := by
  unfold B_MD_name_46 at h
  refine x_iconst (v := 0) d_MD_name_46 (by decide) ?_
  exact b_MD_name_47 h
def B_MD_name_14   (s0 : Int32) (m : x_m) : Option (Int32 × x_m) := ((F_MD_must s0 m).bind fun r14 => (if r14.1 = 0 then B_MD_name_62 r14.2 else (if 0 ≤ (r14.2.1 387 10) then B_MD_name_46 r14.2 else (if 40 < ((r14.2.1 387 7) - (r14.2.1 387 8)) then B_MD_name_46 r14.2 else B_MD_name_47 1 r14.2))))
theorem b_MD_name_14 {G : x_G} {ex : Bool} {r : Int32 × x_m}   {s0 : Int32} {m : x_m} (h : B_MD_name_14 s0 m = some r) : x_W G M_MD_name (x_rd 2) (x_Q G (x_rd 2) ex (x_pi r)) ex x_np (x_hp m) 0 0 [(0, .ref 387)] [.int s0, .ref 387] 14 := by
  unfold B_MD_name_14 at h
  obtain ⟨r14, e14, h⟩ := x_bd h
  refine x_cVi (M2 := M_MD_must) (As := [.int s0]) (st := []) d_MD_name_14 w_1331 k_MD_must (c_MD_must e14) rfl sh_MD hp_MD rfl ⟨Nat.le_of_ble_eq_true rfl, Nat.le_of_ble_eq_true rfl⟩ (Nat.le_of_ble_eq_true rfl) (Nat.le_of_ble_eq_true rfl) rfl ?_
  refine x_if_eq (tgt := 62) d_MD_name_17 (by decide) (fun c_ => ?_) (fun c_ => ?_)
  · replace h := x_it h c_
    refine x_sbk [] (lv2 := []) rfl ?_; exact b_MD_name_62 h
  · replace h := x_ie h c_
    refine x_aload_n d_MD_name_20 rfl rfl ?_
    refine x_aload_n d_MD_name_21 rfl rfl ?_
    refine x_gI d_MD_name_22 (f_MD_80 rfl) sh_MD hp_MD rfl ?_
    refine x_if_ge (tgt := 46) d_MD_name_25 (by decide) (fun c_ => ?_) (fun c_ => ?_)
    · replace h := x_it h c_
      exact b_MD_name_46 h
    · replace h := x_ie h c_
      refine x_aload_n d_MD_name_28 rfl rfl ?_
      refine x_gI d_MD_name_29 (f_MD_70 rfl) sh_MD hp_MD rfl ?_
      refine x_aload_n d_MD_name_32 rfl rfl ?_
      refine x_gI d_MD_name_33 (f_MD_77 rfl) sh_MD hp_MD rfl ?_
      refine x_isub d_MD_name_36 ?_
      refine x_bipush (v := 40) d_MD_name_37 (by decide) ?_
      refine x_icmp_gt (tgt := 46) d_MD_name_39 (by decide) (fun c_ => ?_) (fun c_ => ?_)
      · replace h := x_it h c_
        exact b_MD_name_46 h
      · replace h := x_ie h c_
        refine x_iconst (v := 1) d_MD_name_42 (by decide) ?_
        refine x_goto (tgt := 47) d_MD_name_43 (by decide) ?_
        exact b_MD_name_47 h
def F_MD_name   (m : x_m) : Option (Int32 × x_m) := (if (m.1 387 9) = 1 then B_MD_name_14 1 m else B_MD_name_14 0 m)
theorem c_MD_name {G : x_G} {ex : Bool} {r : Int32 × x_m}   {m : x_m} (h : F_MD_name m = some r) : x_R G M_MD_name (x_rd 2) ex [.ref 387] x_np (x_hp m) (x_pi r) := by
  unfold F_MD_name at h
  show x_W G M_MD_name (x_rd 2) (x_Q G (x_rd 2) ex (x_pi r)) ex x_np (x_hp m) 0 0 [(0, .ref 387)] [] 0
  refine x_aload_n d_MD_name_0 rfl rfl ?_
  refine x_aload_n d_MD_name_1 rfl rfl ?_
  refine x_gI d_MD_name_2 (f_MD_86 rfl) sh_MD hp_MD rfl ?_
  refine x_iconst (v := 1) d_MD_name_5 (by decide) ?_
  refine x_icmp_ne (tgt := 13) d_MD_name_6 (by decide) (fun c_ => ?_) (fun c_ => ?_)
  · replace h := x_ie h c_
    refine x_iconst (v := 0) d_MD_name_13 (by decide) ?_
    exact b_MD_name_14 h
  · replace h := x_it h c_
    refine x_iconst (v := 1) d_MD_name_9 (by decide) ?_
    refine x_goto (tgt := 14) d_MD_name_10 (by decide) ?_
    exact b_MD_name_14 h
def F_MD_needSign  (a1 : Int32) (m : x_m) : Option (Int32 × x_m) := ((F_MD_read m).bind fun r1 => ((F_MD_isSign a1 r1).bind fun r7 => ((F_MD_must r7.1 r7.2).bind fun r10 => (if x_b1 r10.1 = true then some (r10.1, r10.2) else none))))
theorem c_MD_needSign {G : x_G} {ex : Bool} {r : Int32 × x_m}  {a1 : Int32} {m : x_m} (h : F_MD_needSign a1 m = some r) : x_R G M_MD_needSign (x_rd 6) ex [.ref 387, .int a1] x_np (x_hp m) (x_pi r) := by
  unfold F_MD_needSign at h
  show x_W G M_MD_needSign (x_rd 6) (x_Q G (x_rd 6) ex (x_pi r)) ex x_np (x_hp m) 0 0 [(0, .ref 387), (1, .int a1)] [] 0
  refine x_aload_n d_MD_needSign_0 rfl rfl ?_
  obtain ⟨r1, e1, h⟩ := x_bd h
  refine x_cVv (M2 := M_MD_read) (As := []) (st := []) d_MD_needSign_1 w_1240 k_MD_read (c_MD_read e1) rfl sh_MD hp_MD rfl ⟨Nat.le_of_ble_eq_true rfl, Nat.le_of_ble_eq_true rfl⟩ (Nat.le_of_ble_eq_true rfl) (Nat.le_of_ble_eq_true rfl) rfl ?_
  refine x_aload_n d_MD_needSign_4 rfl rfl ?_
  refine x_aload_n d_MD_needSign_5 rfl rfl ?_
  refine x_iload_n d_MD_needSign_6 rfl rfl ?_
  obtain ⟨r7, e7, h⟩ := x_bd h
  refine x_cVi (M2 := M_MD_isSign) (As := [.int a1]) (st := [.ref 387]) d_MD_needSign_7 w_1363 k_MD_isSign (c_MD_isSign e7) rfl sh_MD hp_MD rfl ⟨Nat.le_of_ble_eq_true rfl, Nat.le_of_ble_eq_true rfl⟩ (Nat.le_of_ble_eq_true rfl) (Nat.le_of_ble_eq_true rfl) rfl ?_
  obtain ⟨r10, e10, h⟩ := x_bd h
  refine x_cVi (M2 := M_MD_must) (As := [.int r7.1]) (st := []) d_MD_needSign_10 w_1331 k_MD_must (c_MD_must e10) rfl sh_MD hp_MD rfl ⟨Nat.le_of_ble_eq_true rfl, Nat.le_of_ble_eq_true rfl⟩ (Nat.le_of_ble_eq_true rfl) (Nat.le_of_ble_eq_true rfl) rfl ?_
  obtain ⟨g_13, h⟩ := x_gd h
  cases h
  exact x_ri d_MD_needSign_13 rfl (x_b1_ok g_13).1
def B_MD_newName_59   (s0 : Int32) (m : x_m) : Option (Int32 × x_m) := (if x_b1 s0 = true then some (s0, m) else none)
theorem b_MD_newName_59 {G : x_G} {ex : Bool} {r : Int32 × x_m}   {s0 : Int32} {m : x_m} (h : B_MD_newName_59 s0 m = some r) : x_W G M_MD_newName (x_rd 6) (x_Q G (x_rd 6) ex (x_pi r)) ex x_np (x_hp m) 0 0 [] [.int s0] 59 := by
  unfold B_MD_newName_59 at h
  obtain ⟨g_59, h⟩ := x_gd h
  cases h
  exact x_ri d_MD_newName_59 rfl (x_b1_ok g_59).1
def B_MD_newName_58    (m : x_m) : Option (Int32 × x_m) := B_MD_newName_59 0 m
theorem b_MD_newName_58 {G : x_G} {ex : Bool} {r : Int32 × x_m}    {m : x_m} (h : B_MD_newName_58 m = some r) : x_W G M_MD_newName (x_rd 6) (x_Q G (x_rd 6) ex (x_pi r)) ex x_np (x_hp m) 0 0 [] [] 58 := by
  unfold B_MD_newName_58 at h
  refine x_iconst (v := 0) d_MD_newName_58 (by decide) ?_
  exact b_MD_newName_59 h
def B_MD_newName_42   (s0 : Int32) (m : x_m) : Option (Int32 × x_m) := ((F_MD_want s0 6 (m.1 387 8) m).bind fun r48 => (if r48.1 = 0 then B_MD_newName_58 r48.2 else B_MD_newName_59 1 r48.2))
theorem b_MD_newName_42 {G : x_G} {ex : Bool} {r : Int32 × x_m}   {s0 : Int32} {m : x_m} (h : B_MD_newName_42 s0 m = some r) : x_W G M_MD_newName (x_rd 6) (x_Q G (x_rd 6) ex (x_pi r)) ex x_np (x_hp m) 0 0 [(0, .ref 387)] [.int s0, .ref 387] 42 := by
  unfold B_MD_newName_42 at h
  refine x_bipush (v := 6) d_MD_newName_42 (by decide) ?_
  refine x_aload_n d_MD_newName_44 rfl rfl ?_
  refine x_gI d_MD_newName_45 (f_MD_77 rfl) sh_MD hp_MD rfl ?_
  obtain ⟨r48, e48, h⟩ := x_bd h
  refine x_cVi (M2 := M_MD_want) (As := [.int s0, .int 6, .int (m.1 387 8)]) (st := []) d_MD_newName_48 w_1315 k_MD_want (c_MD_want e48) rfl sh_MD hp_MD rfl ⟨Nat.le_of_ble_eq_true rfl, Nat.le_of_ble_eq_true rfl⟩ (Nat.le_of_ble_eq_true rfl) (Nat.le_of_ble_eq_true rfl) rfl ?_
  refine x_if_eq (tgt := 58) d_MD_newName_51 (by decide) (fun c_ => ?_) (fun c_ => ?_)
  · replace h := x_it h c_
    refine x_sbk [] (lv2 := []) rfl ?_; exact b_MD_newName_58 h
  · replace h := x_ie h c_
    refine x_iconst (v := 1) d_MD_newName_54 (by decide) ?_
    refine x_goto (tgt := 59) d_MD_newName_55 (by decide) ?_
    refine x_sbk [] (lv2 := []) rfl ?_; exact b_MD_newName_59 h
def B_MD_newName_41    (m : x_m) : Option (Int32 × x_m) := B_MD_newName_42 0 m
theorem b_MD_newName_41 {G : x_G} {ex : Bool} {r : Int32 × x_m}    {m : x_m} (h : B_MD_newName_41 m = some r) : x_W G M_MD_newName (x_rd 6) (x_Q G (x_rd 6) ex (x_pi r)) ex x_np (x_hp m) 0 0 [(0, .ref 387)] [.ref 387] 41 := by
  unfold B_MD_newName_41 at h
  refine x_iconst (v := 0) d_MD_newName_41 (by decide) ?_
  exact b_MD_newName_42 h
def F_MD_newName   (m : x_m) : Option (Int32 × x_m) := ((F_MD_read m).bind fun r1 => ((F_MD_name r1).bind fun r5 => (if r5.1 = 0 then B_MD_newName_58 r5.2 else ((F_MD_among 0 (r5.2.1 387 13) r5.2).bind fun r18 => (if 0 ≤ r18.1 then B_MD_newName_41 r18.2 else ((F_MD_among 40 (r18.2.1 387 18) r18.2).bind fun r31 => (if 0 ≤ r31.1 then B_MD_newName_41 r31.2 else B_MD_newName_42 1 r31.2)))))))
theorem c_MD_newName {G : x_G} {ex : Bool} {r : Int32 × x_m}   {m : x_m} (h : F_MD_newName m = some r) : x_R G M_MD_newName (x_rd 6) ex [.ref 387] x_np (x_hp m) (x_pi r) := by
  unfold F_MD_newName at h
  show x_W G M_MD_newName (x_rd 6) (x_Q G (x_rd 6) ex (x_pi r)) ex x_np (x_hp m) 0 0 [(0, .ref 387)] [] 0
  refine x_aload_n d_MD_newName_0 rfl rfl ?_
  obtain ⟨r1, e1, h⟩ := x_bd h
  refine x_cVv (M2 := M_MD_read) (As := []) (st := []) d_MD_newName_1 w_1240 k_MD_read (c_MD_read e1) rfl sh_MD hp_MD rfl ⟨Nat.le_of_ble_eq_true rfl, Nat.le_of_ble_eq_true rfl⟩ (Nat.le_of_ble_eq_true rfl) (Nat.le_of_ble_eq_true rfl) rfl ?_
  refine x_aload_n d_MD_newName_4 rfl rfl ?_
  obtain ⟨r5, e5, h⟩ := x_bd h
  refine x_cVi (M2 := M_MD_name) (As := []) (st := []) d_MD_newName_5 w_1343 k_MD_name (c_MD_name e5) rfl sh_MD hp_MD rfl ⟨Nat.le_of_ble_eq_true rfl, Nat.le_of_ble_eq_true rfl⟩ (Nat.le_of_ble_eq_true rfl) (Nat.le_of_ble_eq_true rfl) rfl ?_
  refine x_if_eq (tgt := 58) d_MD_newName_8 (by decide) (fun c_ => ?_) (fun c_ => ?_)
  · replace h := x_it h c_
    refine x_sbk [] (lv2 := []) rfl ?_; exact b_MD_newName_58 h
  · replace h := x_ie h c_
    refine x_aload_n d_MD_newName_11 rfl rfl ?_
    refine x_aload_n d_MD_newName_12 rfl rfl ?_
    refine x_iconst (v := 0) d_MD_newName_13 (by decide) ?_
    refine x_aload_n d_MD_newName_14 rfl rfl ?_
    refine x_gI d_MD_newName_15 (f_MD_150 rfl) sh_MD hp_MD rfl ?_
    obtain ⟨r18, e18, h⟩ := x_bd h
    refine x_cVi (M2 := M_MD_among) (As := [.int 0, .int (r5.2.1 387 13)]) (st := [.ref 387]) d_MD_newName_18 w_1347 k_MD_among (c_MD_among e18) rfl sh_MD hp_MD rfl ⟨Nat.le_of_ble_eq_true rfl, Nat.le_of_ble_eq_true rfl⟩ (Nat.le_of_ble_eq_true rfl) (Nat.le_of_ble_eq_true rfl) rfl ?_
    refine x_if_ge (tgt := 41) d_MD_newName_21 (by decide) (fun c_ => ?_) (fun c_ => ?_)
    · replace h := x_it h c_
      exact b_MD_newName_41 h
    · replace h := x_ie h c_
      refine x_aload_n d_MD_newName_24 rfl rfl ?_
      refine x_bipush (v := 40) d_MD_newName_25 (by decide) ?_
      refine x_aload_n d_MD_newName_27 rfl rfl ?_
      refine x_gI d_MD_newName_28 (f_MD_157 rfl) sh_MD hp_MD rfl ?_
      obtain ⟨r31, e31, h⟩ := x_bd h
      refine x_cVi (M2 := M_MD_among) (As := [.int 40, .int (r18.2.1 387 18)]) (st := [.ref 387]) d_MD_newName_31 w_1347 k_MD_among (c_MD_among e31) rfl sh_MD hp_MD rfl ⟨Nat.le_of_ble_eq_true rfl, Nat.le_of_ble_eq_true rfl⟩ (Nat.le_of_ble_eq_true rfl) (Nat.le_of_ble_eq_true rfl) rfl ?_
      refine x_if_ge (tgt := 41) d_MD_newName_34 (by decide) (fun c_ => ?_) (fun c_ => ?_)
      · replace h := x_it h c_
        exact b_MD_newName_41 h
      · replace h := x_ie h c_
        refine x_iconst (v := 1) d_MD_newName_37 (by decide) ?_
        refine x_goto (tgt := 42) d_MD_newName_38 (by decide) ?_
        exact b_MD_newName_42 h
def B_MD_dimension0_242    (m : x_m) : Option (x_m) := some m
theorem b_MD_dimension0_242 {G : x_G} {ex : Bool} {r : x_m}    {m : x_m} (h : B_MD_dimension0_242 m = some r) : x_W G M_MD_dimension0 (x_rd 7) (x_Q G (x_rd 7) ex (x_pv r)) ex x_np (x_hp m) 0 0 [] [] 242 := by
  unfold B_MD_dimension0_242 at h
  cases h
  exact x_rv d_MD_dimension0_242 rfl
def B_MD_dimension0_192  (K53 : Int32 → Int32 → x_m → Option (x_m)) (l2 : Int32) (s0 : Int32) (m : x_m) : Option (x_m) := K53 l2 s0 m
theorem b_MD_dimension0_192 {G : x_G} {ex : Bool} {r : x_m}  {K53 : Int32 → Int32 → x_m → Option (x_m)} (hK53 : ∀ (l2 : Int32) (l3 : Int32) (m : x_m), K53 l2 l3 m = some r → x_W G M_MD_dimension0 (x_rd 7) (x_Q G (x_rd 7) ex (x_pv r)) ex x_np (x_hp m) 0 0 [(0, .ref 387), (2, .int l2), (3, .int l3)] [] 53) {l2 : Int32} {s0 : Int32} {m : x_m} (h : B_MD_dimension0_192 K53 l2 s0 m = some r) : x_W G M_MD_dimension0 (x_rd 7) (x_Q G (x_rd 7) ex (x_pv r)) ex x_np (x_hp m) 0 0 [(0, .ref 387), (2, .int l2)] [.int s0] 192 := by
  unfold B_MD_dimension0_192 at h
  refine x_istore_n (lv2 := [(0, .ref 387), (2, .int l2), (3, .int s0)]) d_MD_dimension0_192 rfl (by decide) rfl ?_
  refine x_goto (tgt := 53) d_MD_dimension0_193 (by decide) ?_
  exact hK53 _ _ _ h
def B_MD_dimension0_191  (K53 : Int32 → Int32 → x_m → Option (x_m)) (l2 : Int32) (m : x_m) : Option (x_m) := B_MD_dimension0_192 K53 l2 0 m
theorem b_MD_dimension0_191 {G : x_G} {ex : Bool} {r : x_m}  {K53 : Int32 → Int32 → x_m → Option (x_m)} (hK53 : ∀ (l2 : Int32) (l3 : Int32) (m : x_m), K53 l2 l3 m = some r → x_W G M_MD_dimension0 (x_rd 7) (x_Q G (x_rd 7) ex (x_pv r)) ex x_np (x_hp m) 0 0 [(0, .ref 387), (2, .int l2), (3, .int l3)] [] 53) {l2 : Int32} {m : x_m} (h : B_MD_dimension0_191 K53 l2 m = some r) : x_W G M_MD_dimension0 (x_rd 7) (x_Q G (x_rd 7) ex (x_pv r)) ex x_np (x_hp m) 0 0 [(0, .ref 387), (2, .int l2)] [] 191 := by
  unfold B_MD_dimension0_191 at h
  refine x_iconst (v := 0) d_MD_dimension0_191 (by decide) ?_
  exact b_MD_dimension0_192 hK53 h
def B_MD_dimension0_172  (K53 : Int32 → Int32 → x_m → Option (x_m)) (l2 : Int32) (s0 : Int32) (m : x_m) : Option (x_m) := ((F_MD_must s0 m).bind fun r172 => (if r172.1 = 0 then B_MD_dimension0_191 K53 l2 r172.2 else ((F_MD_isSign 44 r172.2).bind fun r181 => (if r181.1 = 0 then B_MD_dimension0_191 K53 l2 r181.2 else B_MD_dimension0_192 K53 l2 1 r181.2))))
theorem b_MD_dimension0_172 {G : x_G} {ex : Bool} {r : x_m}  {K53 : Int32 → Int32 → x_m → Option (x_m)} (hK53 : ∀ (l2 : Int32) (l3 : Int32) (m : x_m), K53 l2 l3 m = some r → x_W G M_MD_dimension0 (x_rd 7) (x_Q G (x_rd 7) ex (x_pv r)) ex x_np (x_hp m) 0 0 [(0, .ref 387), (2, .int l2), (3, .int l3)] [] 53) {l2 : Int32} {s0 : Int32} {m : x_m} (h : B_MD_dimension0_172 K53 l2 s0 m = some r) : x_W G M_MD_dimension0 (x_rd 7) (x_Q G (x_rd 7) ex (x_pv r)) ex x_np (x_hp m) 0 0 [(0, .ref 387), (2, .int l2)] [.int s0, .ref 387] 172 := by
  unfold B_MD_dimension0_172 at h
  obtain ⟨r172, e172, h⟩ := x_bd h
  refine x_cVi (M2 := M_MD_must) (As := [.int s0]) (st := []) d_MD_dimension0_172 w_1331 k_MD_must (c_MD_must e172) rfl sh_MD hp_MD rfl ⟨Nat.le_of_ble_eq_true rfl, Nat.le_of_ble_eq_true rfl⟩ (Nat.le_of_ble_eq_true rfl) (Nat.le_of_ble_eq_true rfl) rfl ?_
  refine x_if_eq (tgt := 191) d_MD_dimension0_175 (by decide) (fun c_ => ?_) (fun c_ => ?_)
  · replace h := x_it h c_
    exact b_MD_dimension0_191 hK53 h
  · replace h := x_ie h c_
    refine x_aload_n d_MD_dimension0_178 rfl rfl ?_
    refine x_bipush (v := 44) d_MD_dimension0_179 (by decide) ?_
    obtain ⟨r181, e181, h⟩ := x_bd h
    refine x_cVi (M2 := M_MD_isSign) (As := [.int 44]) (st := []) d_MD_dimension0_181 w_1363 k_MD_isSign (c_MD_isSign e181) rfl sh_MD hp_MD rfl ⟨Nat.le_of_ble_eq_true rfl, Nat.le_of_ble_eq_true rfl⟩ (Nat.le_of_ble_eq_true rfl) (Nat.le_of_ble_eq_true rfl) rfl ?_
    refine x_if_eq (tgt := 191) d_MD_dimension0_184 (by decide) (fun c_ => ?_) (fun c_ => ?_)
    · replace h := x_it h c_
      exact b_MD_dimension0_191 hK53 h
    · replace h := x_ie h c_
      refine x_iconst (v := 1) d_MD_dimension0_187 (by decide) ?_
      refine x_goto (tgt := 192) d_MD_dimension0_188 (by decide) ?_
      exact b_MD_dimension0_192 hK53 h
def B_MD_dimension0_167  (K53 : Int32 → Int32 → x_m → Option (x_m)) (l2 : Int32) (m : x_m) : Option (x_m) := B_MD_dimension0_172 K53 l2 1 m
theorem b_MD_dimension0_167 {G : x_G} {ex : Bool} {r : x_m}  {K53 : Int32 → Int32 → x_m → Option (x_m)} (hK53 : ∀ (l2 : Int32) (l3 : Int32) (m : x_m), K53 l2 l3 m = some r → x_W G M_MD_dimension0 (x_rd 7) (x_Q G (x_rd 7) ex (x_pv r)) ex x_np (x_hp m) 0 0 [(0, .ref 387), (2, .int l2), (3, .int l3)] [] 53) {l2 : Int32} {m : x_m} (h : B_MD_dimension0_167 K53 l2 m = some r) : x_W G M_MD_dimension0 (x_rd 7) (x_Q G (x_rd 7) ex (x_pv r)) ex x_np (x_hp m) 0 0 [(0, .ref 387), (2, .int l2)] [.ref 387] 167 := by
  unfold B_MD_dimension0_167 at h
  refine x_iconst (v := 1) d_MD_dimension0_167 (by decide) ?_
  refine x_goto (tgt := 172) d_MD_dimension0_168 (by decide) ?_
  exact b_MD_dimension0_172 hK53 h
def B_MD_dimension0_144  (K53 : Int32 → Int32 → x_m → Option (x_m)) (l2 : Int32) (m : x_m) : Option (x_m) := ((F_MD_read m).bind fun r145 => ((F_MD_isSign 44 r145).bind fun r152 => (if r152.1 = 0 then ((F_MD_isSign 41 r152.2).bind fun r161 => (if r161.1 = 0 then B_MD_dimension0_172 K53 l2 0 r161.2 else B_MD_dimension0_167 K53 l2 r161.2)) else B_MD_dimension0_167 K53 l2 r152.2)))
theorem b_MD_dimension0_144 {G : x_G} {ex : Bool} {r : x_m}  {K53 : Int32 → Int32 → x_m → Option (x_m)} (hK53 : ∀ (l2 : Int32) (l3 : Int32) (m : x_m), K53 l2 l3 m = some r → x_W G M_MD_dimension0 (x_rd 7) (x_Q G (x_rd 7) ex (x_pv r)) ex x_np (x_hp m) 0 0 [(0, .ref 387), (2, .int l2), (3, .int l3)] [] 53) {l2 : Int32} {m : x_m} (h : B_MD_dimension0_144 K53 l2 m = some r) : x_W G M_MD_dimension0 (x_rd 7) (x_Q G (x_rd 7) ex (x_pv r)) ex x_np (x_hp m) 0 0 [(0, .ref 387), (2, .int l2)] [] 144 := by
  unfold B_MD_dimension0_144 at h
  refine x_aload_n d_MD_dimension0_144 rfl rfl ?_
  obtain ⟨r145, e145, h⟩ := x_bd h
  refine x_cVv (M2 := M_MD_read) (As := []) (st := []) d_MD_dimension0_145 w_1240 k_MD_read (c_MD_read e145) rfl sh_MD hp_MD rfl ⟨Nat.le_of_ble_eq_true rfl, Nat.le_of_ble_eq_true rfl⟩ (Nat.le_of_ble_eq_true rfl) (Nat.le_of_ble_eq_true rfl) rfl ?_
  refine x_aload_n d_MD_dimension0_148 rfl rfl ?_
  refine x_aload_n d_MD_dimension0_149 rfl rfl ?_
  refine x_bipush (v := 44) d_MD_dimension0_150 (by decide) ?_
  obtain ⟨r152, e152, h⟩ := x_bd h
  refine x_cVi (M2 := M_MD_isSign) (As := [.int 44]) (st := [.ref 387]) d_MD_dimension0_152 w_1363 k_MD_isSign (c_MD_isSign e152) rfl sh_MD hp_MD rfl ⟨Nat.le_of_ble_eq_true rfl, Nat.le_of_ble_eq_true rfl⟩ (Nat.le_of_ble_eq_true rfl) (Nat.le_of_ble_eq_true rfl) rfl ?_
  refine x_if_ne (tgt := 167) d_MD_dimension0_155 (by decide) (fun c_ => ?_) (fun c_ => ?_)
  · replace h := x_ie h c_
    exact b_MD_dimension0_167 hK53 h
  · replace h := x_it h c_
    refine x_aload_n d_MD_dimension0_158 rfl rfl ?_
    refine x_bipush (v := 41) d_MD_dimension0_159 (by decide) ?_
    obtain ⟨r161, e161, h⟩ := x_bd h
    refine x_cVi (M2 := M_MD_isSign) (As := [.int 41]) (st := [.ref 387]) d_MD_dimension0_161 w_1363 k_MD_isSign (c_MD_isSign e161) rfl sh_MD hp_MD rfl ⟨Nat.le_of_ble_eq_true rfl, Nat.le_of_ble_eq_true rfl⟩ (Nat.le_of_ble_eq_true rfl) (Nat.le_of_ble_eq_true rfl) rfl ?_
    refine x_if_eq (tgt := 171) d_MD_dimension0_164 (by decide) (fun c_ => ?_) (fun c_ => ?_)
    · replace h := x_it h c_
      refine x_iconst (v := 0) d_MD_dimension0_171 (by decide) ?_
      exact b_MD_dimension0_172 hK53 h
    · replace h := x_ie h c_
      exact b_MD_dimension0_167 hK53 h
def B_MD_dimension0_114  (K53 : Int32 → Int32 → x_m → Option (x_m)) (l2 : Int32) (s0 : Int32) (m : x_m) : Option (x_m) := ((F_MD_want s0 7 (m.1 387 8) m).bind fun r120 => (if r120.1 = 0 then B_MD_dimension0_144 K53 l2 r120.2 else ((F_MD_keep ((8 + (4 * (r120.2.1 387 13))) + l2) r120.2).bind fun r138 => B_MD_dimension0_144 K53 (l2 + 1) r138)))
theorem b_MD_dimension0_114 {G : x_G} {ex : Bool} {r : x_m}  {K53 : Int32 → Int32 → x_m → Option (x_m)} (hK53 : ∀ (l2 : Int32) (l3 : Int32) (m : x_m), K53 l2 l3 m = some r → x_W G M_MD_dimension0 (x_rd 7) (x_Q G (x_rd 7) ex (x_pv r)) ex x_np (x_hp m) 0 0 [(0, .ref 387), (2, .int l2), (3, .int l3)] [] 53) {l2 : Int32} {s0 : Int32} {m : x_m} (h : B_MD_dimension0_114 K53 l2 s0 m = some r) : x_W G M_MD_dimension0 (x_rd 7) (x_Q G (x_rd 7) ex (x_pv r)) ex x_np (x_hp m) 0 0 [(0, .ref 387), (2, .int l2)] [.int s0, .ref 387] 114 := by
  unfold B_MD_dimension0_114 at h
  refine x_bipush (v := 7) d_MD_dimension0_114 (by decide) ?_
  refine x_aload_n d_MD_dimension0_116 rfl rfl ?_
  refine x_gI d_MD_dimension0_117 (f_MD_77 rfl) sh_MD hp_MD rfl ?_
  obtain ⟨r120, e120, h⟩ := x_bd h
  refine x_cVi (M2 := M_MD_want) (As := [.int s0, .int 7, .int (m.1 387 8)]) (st := []) d_MD_dimension0_120 w_1315 k_MD_want (c_MD_want e120) rfl sh_MD hp_MD rfl ⟨Nat.le_of_ble_eq_true rfl, Nat.le_of_ble_eq_true rfl⟩ (Nat.le_of_ble_eq_true rfl) (Nat.le_of_ble_eq_true rfl) rfl ?_
  refine x_if_eq (tgt := 144) d_MD_dimension0_123 (by decide) (fun c_ => ?_) (fun c_ => ?_)
  · replace h := x_it h c_
    exact b_MD_dimension0_144 hK53 h
  · replace h := x_ie h c_
    refine x_aload_n d_MD_dimension0_126 rfl rfl ?_
    refine x_bipush (v := 8) d_MD_dimension0_127 (by decide) ?_
    refine x_iconst (v := 4) d_MD_dimension0_129 (by decide) ?_
    refine x_aload_n d_MD_dimension0_130 rfl rfl ?_
    refine x_gI d_MD_dimension0_131 (f_MD_150 rfl) sh_MD hp_MD rfl ?_
    refine x_imul d_MD_dimension0_134 ?_
    refine x_iadd d_MD_dimension0_135 ?_
    refine x_iload_n d_MD_dimension0_136 rfl rfl ?_
    refine x_iadd d_MD_dimension0_137 ?_
    obtain ⟨r138, e138, h⟩ := x_bd h
    refine x_cVv (M2 := M_MD_keep) (As := [.int ((8 + (4 * (r120.2.1 387 13))) + l2)]) (st := []) d_MD_dimension0_138 w_1355 k_MD_keep (c_MD_keep e138) rfl sh_MD hp_MD rfl ⟨Nat.le_of_ble_eq_true rfl, Nat.le_of_ble_eq_true rfl⟩ (Nat.le_of_ble_eq_true rfl) (Nat.le_of_ble_eq_true rfl) rfl ?_
    refine x_iinc (v := l2 + 1) (lv2 := [(0, .ref 387), (2, .int (l2 + 1))]) d_MD_dimension0_141 rfl rfl (by decide) rfl ?_
    exact b_MD_dimension0_144 hK53 h
def B_MD_dimension0_91  (K53 : Int32 → Int32 → x_m → Option (x_m)) (l2 : Int32) (s0 : Int32) (m : x_m) : Option (x_m) := ((F_MD_want s0 6 (m.1 387 8) m).bind fun r97 => (if r97.1 = 0 then B_MD_dimension0_144 K53 l2 r97.2 else (if 4 ≤ l2 then B_MD_dimension0_114 K53 l2 0 r97.2 else B_MD_dimension0_114 K53 l2 1 r97.2)))
theorem b_MD_dimension0_91 {G : x_G} {ex : Bool} {r : x_m}  {K53 : Int32 → Int32 → x_m → Option (x_m)} (hK53 : ∀ (l2 : Int32) (l3 : Int32) (m : x_m), K53 l2 l3 m = some r → x_W G M_MD_dimension0 (x_rd 7) (x_Q G (x_rd 7) ex (x_pv r)) ex x_np (x_hp m) 0 0 [(0, .ref 387), (2, .int l2), (3, .int l3)] [] 53) {l2 : Int32} {s0 : Int32} {m : x_m} (h : B_MD_dimension0_91 K53 l2 s0 m = some r) : x_W G M_MD_dimension0 (x_rd 7) (x_Q G (x_rd 7) ex (x_pv r)) ex x_np (x_hp m) 0 0 [(0, .ref 387), (2, .int l2)] [.int s0, .ref 387] 91 := by
  unfold B_MD_dimension0_91 at h
  refine x_bipush (v := 6) d_MD_dimension0_91 (by decide) ?_
  refine x_aload_n d_MD_dimension0_93 rfl rfl ?_
  refine x_gI d_MD_dimension0_94 (f_MD_77 rfl) sh_MD hp_MD rfl ?_
  obtain ⟨r97, e97, h⟩ := x_bd h
  refine x_cVi (M2 := M_MD_want) (As := [.int s0, .int 6, .int (m.1 387 8)]) (st := []) d_MD_dimension0_97 w_1315 k_MD_want (c_MD_want e97) rfl sh_MD hp_MD rfl ⟨Nat.le_of_ble_eq_true rfl, Nat.le_of_ble_eq_true rfl⟩ (Nat.le_of_ble_eq_true rfl) (Nat.le_of_ble_eq_true rfl) rfl ?_
  refine x_if_eq (tgt := 144) d_MD_dimension0_100 (by decide) (fun c_ => ?_) (fun c_ => ?_)
  · replace h := x_it h c_
    exact b_MD_dimension0_144 hK53 h
  · replace h := x_ie h c_
    refine x_aload_n d_MD_dimension0_103 rfl rfl ?_
    refine x_iload_n d_MD_dimension0_104 rfl rfl ?_
    refine x_iconst (v := 4) d_MD_dimension0_105 (by decide) ?_
    refine x_icmp_ge (tgt := 113) d_MD_dimension0_106 (by decide) (fun c_ => ?_) (fun c_ => ?_)
    · replace h := x_it h c_
      refine x_iconst (v := 0) d_MD_dimension0_113 (by decide) ?_
      exact b_MD_dimension0_114 hK53 h
    · replace h := x_ie h c_
      refine x_iconst (v := 1) d_MD_dimension0_109 (by decide) ?_
      refine x_goto (tgt := 114) d_MD_dimension0_110 (by decide) ?_
      exact b_MD_dimension0_114 hK53 h
def B_MD_dimension0_53   : Nat → Int32 → Int32 → x_m → Option (x_m)
  | 0, _, _, _ => none
  | f_ + 1, l2, l3, m => (if l3 = 0 then ((F_MD_needSign 59 m).bind fun r199 => (if r199.1 = 0 then B_MD_dimension0_242 r199.2 else (if (r199.2.1 387 5) = 0 then (if x_ix (r199.2.1 387 13) 8 = true then (if x_ix ((x_wA r199.2 389 (r199.2.1 387 13).toNatClampNeg l2).1 387 13) 8 = true then B_MD_dimension0_242 (x_wS (x_wA (x_wA r199.2 389 (r199.2.1 387 13).toNatClampNeg l2) 390 ((x_wA r199.2 389 (r199.2.1 387 13).toNatClampNeg l2).1 387 13).toNatClampNeg 0) 387 13 (((x_wA (x_wA r199.2 389 (r199.2.1 387 13).toNatClampNeg l2) 390 ((x_wA r199.2 389 (r199.2.1 387 13).toNatClampNeg l2).1 387 13).toNatClampNeg 0).1 387 13) + 1)) else none) else none) else B_MD_dimension0_242 r199.2))) else ((F_MD_read m).bind fun r58 => ((F_MD_name r58).bind fun r62 => (if r62.1 = 0 then B_MD_dimension0_144 (B_MD_dimension0_53 f_) l2 r62.2 else ((F_MD_among (8 + (4 * (r62.2.1 387 13))) l2 r62.2).bind fun r80 => (if 0 ≤ r80.1 then B_MD_dimension0_91 (B_MD_dimension0_53 f_) l2 0 r80.2 else B_MD_dimension0_91 (B_MD_dimension0_53 f_) l2 1 r80.2))))))
theorem b_MD_dimension0_53 {G : x_G} {ex : Bool} {r : x_m}   : ∀ (f_ : Nat) (l2 : Int32) (l3 : Int32) (m : x_m), B_MD_dimension0_53 f_ l2 l3 m = some r → x_W G M_MD_dimension0 (x_rd 7) (x_Q G (x_rd 7) ex (x_pv r)) ex x_np (x_hp m) 0 0 [(0, .ref 387), (2, .int l2), (3, .int l3)] [] 53 := by
  intro f_
  induction f_ with
  | zero => intro l2 l3 m h; exact nomatch h
  | succ f_ ih =>
    intro l2 l3 m h
    rw [B_MD_dimension0_53] at h
    have hK53 := ih
    refine x_iload_n d_MD_dimension0_53 rfl rfl ?_
    refine x_if_eq (tgt := 196) d_MD_dimension0_54 (by decide) (fun c_ => ?_) (fun c_ => ?_)
    · replace h := x_it h c_
      refine x_aload_n d_MD_dimension0_196 rfl rfl ?_
      refine x_bipush (v := 59) d_MD_dimension0_197 (by decide) ?_
      obtain ⟨r199, e199, h⟩ := x_bd h
      refine x_cVi (M2 := M_MD_needSign) (As := [.int 59]) (st := []) d_MD_dimension0_199 w_1359 k_MD_needSign (c_MD_needSign e199) rfl sh_MD hp_MD rfl ⟨Nat.le_of_ble_eq_true rfl, Nat.le_of_ble_eq_true rfl⟩ (Nat.le_of_ble_eq_true rfl) (Nat.le_of_ble_eq_true rfl) rfl ?_
      refine x_if_eq (tgt := 242) d_MD_dimension0_202 (by decide) (fun c_ => ?_) (fun c_ => ?_)
      · replace h := x_it h c_
        refine x_sbk [] (lv2 := []) rfl ?_; exact b_MD_dimension0_242 h
      · replace h := x_ie h c_
        refine x_aload_n d_MD_dimension0_205 rfl rfl ?_
        refine x_gI d_MD_dimension0_206 (f_MD_67 rfl) sh_MD hp_MD rfl ?_
        refine x_if_ne (tgt := 242) d_MD_dimension0_209 (by decide) (fun c_ => ?_) (fun c_ => ?_)
        · replace h := x_ie h c_
          refine x_sbk [] (lv2 := []) rfl ?_; exact b_MD_dimension0_242 h
        · replace h := x_it h c_
          refine x_aload_n d_MD_dimension0_212 rfl rfl ?_
          refine x_gC d_MD_dimension0_213 (f_MD_24 rfl) sh_MD hp_MD rfl ?_
          refine x_aload_n d_MD_dimension0_216 rfl rfl ?_
          refine x_gI d_MD_dimension0_217 (f_MD_150 rfl) sh_MD hp_MD rfl ?_
          refine x_iload_n d_MD_dimension0_220 rfl rfl ?_
          obtain ⟨g_221, h⟩ := x_gd h
          refine x_sI d_MD_dimension0_221 rfl sa_MD_levels ha_MD_levels g_221 ?_
          refine x_aload_n d_MD_dimension0_222 rfl rfl ?_
          refine x_gC d_MD_dimension0_223 (f_MD_28 rfl) sh_MD hp_MD rfl ?_
          refine x_aload_n d_MD_dimension0_226 rfl rfl ?_
          refine x_gI d_MD_dimension0_227 (f_MD_150 rfl) sh_MD hp_MD rfl ?_
          refine x_iconst (v := 0) d_MD_dimension0_230 (by decide) ?_
          obtain ⟨g_231, h⟩ := x_gd h
          refine x_sI d_MD_dimension0_231 rfl sa_MD_members ha_MD_members g_231 ?_
          refine x_aload_n d_MD_dimension0_232 rfl rfl ?_
          refine x_dup d_MD_dimension0_233 rfl ?_
          refine x_gI d_MD_dimension0_234 (f_MD_150 rfl) sh_MD hp_MD rfl ?_
          refine x_iconst (v := 1) d_MD_dimension0_237 (by decide) ?_
          refine x_iadd d_MD_dimension0_238 ?_
          refine x_pI d_MD_dimension0_239 (f_MD_150 rfl) tb_MD rfl sh_MD hp_MD rfl ⟨rfl, rfl⟩ ?_
          refine x_sbk [] (lv2 := []) rfl ?_; exact b_MD_dimension0_242 h
    · replace h := x_ie h c_
      refine x_aload_n d_MD_dimension0_57 rfl rfl ?_
      obtain ⟨r58, e58, h⟩ := x_bd h
      refine x_cVv (M2 := M_MD_read) (As := []) (st := []) d_MD_dimension0_58 w_1240 k_MD_read (c_MD_read e58) rfl sh_MD hp_MD rfl ⟨Nat.le_of_ble_eq_true rfl, Nat.le_of_ble_eq_true rfl⟩ (Nat.le_of_ble_eq_true rfl) (Nat.le_of_ble_eq_true rfl) rfl ?_
      refine x_aload_n d_MD_dimension0_61 rfl rfl ?_
      obtain ⟨r62, e62, h⟩ := x_bd h
      refine x_cVi (M2 := M_MD_name) (As := []) (st := []) d_MD_dimension0_62 w_1343 k_MD_name (c_MD_name e62) rfl sh_MD hp_MD rfl ⟨Nat.le_of_ble_eq_true rfl, Nat.le_of_ble_eq_true rfl⟩ (Nat.le_of_ble_eq_true rfl) (Nat.le_of_ble_eq_true rfl) rfl ?_
      refine x_if_eq (tgt := 144) d_MD_dimension0_65 (by decide) (fun c_ => ?_) (fun c_ => ?_)
      · replace h := x_it h c_
        refine x_sbk [0, 1] (lv2 := [(0, .ref 387), (2, .int l2)]) rfl ?_; exact b_MD_dimension0_144 hK53 h
      · replace h := x_ie h c_
        refine x_aload_n d_MD_dimension0_68 rfl rfl ?_
        refine x_aload_n d_MD_dimension0_69 rfl rfl ?_
        refine x_bipush (v := 8) d_MD_dimension0_70 (by decide) ?_
        refine x_iconst (v := 4) d_MD_dimension0_72 (by decide) ?_
        refine x_aload_n d_MD_dimension0_73 rfl rfl ?_
        refine x_gI d_MD_dimension0_74 (f_MD_150 rfl) sh_MD hp_MD rfl ?_
        refine x_imul d_MD_dimension0_77 ?_
        refine x_iadd d_MD_dimension0_78 ?_
        refine x_iload_n d_MD_dimension0_79 rfl rfl ?_
        obtain ⟨r80, e80, h⟩ := x_bd h
        refine x_cVi (M2 := M_MD_among) (As := [.int (8 + (4 * (r62.2.1 387 13))), .int l2]) (st := [.ref 387]) d_MD_dimension0_80 w_1347 k_MD_among (c_MD_among e80) rfl sh_MD hp_MD rfl ⟨Nat.le_of_ble_eq_true rfl, Nat.le_of_ble_eq_true rfl⟩ (Nat.le_of_ble_eq_true rfl) (Nat.le_of_ble_eq_true rfl) rfl ?_
        refine x_if_ge (tgt := 90) d_MD_dimension0_83 (by decide) (fun c_ => ?_) (fun c_ => ?_)
        · replace h := x_it h c_
          refine x_iconst (v := 0) d_MD_dimension0_90 (by decide) ?_
          refine x_sbk [0, 1] (lv2 := [(0, .ref 387), (2, .int l2)]) rfl ?_; exact b_MD_dimension0_91 hK53 h
        · replace h := x_ie h c_
          refine x_iconst (v := 1) d_MD_dimension0_86 (by decide) ?_
          refine x_goto (tgt := 91) d_MD_dimension0_87 (by decide) ?_
          refine x_sbk [0, 1] (lv2 := [(0, .ref 387), (2, .int l2)]) rfl ?_; exact b_MD_dimension0_91 hK53 h
def B_MD_dimension0_42    (m : x_m) : Option (x_m) := ((F_MD_needSign 40 m).bind fun r45 => B_MD_dimension0_53 x_fu 0 r45.1 r45.2)
theorem b_MD_dimension0_42 {G : x_G} {ex : Bool} {r : x_m}    {m : x_m} (h : B_MD_dimension0_42 m = some r) : x_W G M_MD_dimension0 (x_rd 7) (x_Q G (x_rd 7) ex (x_pv r)) ex x_np (x_hp m) 0 0 [(0, .ref 387)] [] 42 := by
  unfold B_MD_dimension0_42 at h
  refine x_aload_n d_MD_dimension0_42 rfl rfl ?_
  refine x_bipush (v := 40) d_MD_dimension0_43 (by decide) ?_
  obtain ⟨r45, e45, h⟩ := x_bd h
  refine x_cVi (M2 := M_MD_needSign) (As := [.int 40]) (st := []) d_MD_dimension0_45 w_1359 k_MD_needSign (c_MD_needSign e45) rfl sh_MD hp_MD rfl ⟨Nat.le_of_ble_eq_true rfl, Nat.le_of_ble_eq_true rfl⟩ (Nat.le_of_ble_eq_true rfl) (Nat.le_of_ble_eq_true rfl) rfl ?_
  refine x_istore_n (lv2 := [(0, .ref 387), (1, .int r45.1)]) d_MD_dimension0_48 rfl (by decide) rfl ?_
  refine x_iconst (v := 0) d_MD_dimension0_49 (by decide) ?_
  refine x_istore_n (lv2 := [(0, .ref 387), (1, .int r45.1), (2, .int 0)]) d_MD_dimension0_50 rfl (by decide) rfl ?_
  refine x_iload_n d_MD_dimension0_51 rfl rfl ?_
  refine x_istore_n (lv2 := [(0, .ref 387), (1, .int r45.1), (2, .int 0), (3, .int r45.1)]) d_MD_dimension0_52 rfl (by decide) rfl ?_
  refine x_sbk [0, 2, 3] (lv2 := [(0, .ref 387), (2, .int 0), (3, .int r45.1)]) rfl ?_; exact b_MD_dimension0_53 _ _ _ _ h
def B_MD_dimension0_22   (s0 : Int32) (m : x_m) : Option (x_m) := ((F_MD_want s0 7 (m.1 387 8) m).bind fun r28 => (if r28.1 = 0 then B_MD_dimension0_42 r28.2 else ((F_MD_keep (r28.2.1 387 13) r28.2).bind fun r39 => B_MD_dimension0_42 r39)))
theorem b_MD_dimension0_22 {G : x_G} {ex : Bool} {r : x_m}   {s0 : Int32} {m : x_m} (h : B_MD_dimension0_22 s0 m = some r) : x_W G M_MD_dimension0 (x_rd 7) (x_Q G (x_rd 7) ex (x_pv r)) ex x_np (x_hp m) 0 0 [(0, .ref 387)] [.int s0, .ref 387] 22 := by
  unfold B_MD_dimension0_22 at h
  refine x_bipush (v := 7) d_MD_dimension0_22 (by decide) ?_
  refine x_aload_n d_MD_dimension0_24 rfl rfl ?_
  refine x_gI d_MD_dimension0_25 (f_MD_77 rfl) sh_MD hp_MD rfl ?_
  obtain ⟨r28, e28, h⟩ := x_bd h
  refine x_cVi (M2 := M_MD_want) (As := [.int s0, .int 7, .int (m.1 387 8)]) (st := []) d_MD_dimension0_28 w_1315 k_MD_want (c_MD_want e28) rfl sh_MD hp_MD rfl ⟨Nat.le_of_ble_eq_true rfl, Nat.le_of_ble_eq_true rfl⟩ (Nat.le_of_ble_eq_true rfl) (Nat.le_of_ble_eq_true rfl) rfl ?_
  refine x_if_eq (tgt := 42) d_MD_dimension0_31 (by decide) (fun c_ => ?_) (fun c_ => ?_)
  · replace h := x_it h c_
    exact b_MD_dimension0_42 h
  · replace h := x_ie h c_
    refine x_aload_n d_MD_dimension0_34 rfl rfl ?_
    refine x_aload_n d_MD_dimension0_35 rfl rfl ?_
    refine x_gI d_MD_dimension0_36 (f_MD_150 rfl) sh_MD hp_MD rfl ?_
    obtain ⟨r39, e39, h⟩ := x_bd h
    refine x_cVv (M2 := M_MD_keep) (As := [.int (r28.2.1 387 13)]) (st := []) d_MD_dimension0_39 w_1355 k_MD_keep (c_MD_keep e39) rfl sh_MD hp_MD rfl ⟨Nat.le_of_ble_eq_true rfl, Nat.le_of_ble_eq_true rfl⟩ (Nat.le_of_ble_eq_true rfl) (Nat.le_of_ble_eq_true rfl) rfl ?_
    exact b_MD_dimension0_42 h
def F_MD_dimension0   (m : x_m) : Option (x_m) := ((F_MD_newName m).bind fun r1 => (if r1.1 = 0 then B_MD_dimension0_42 r1.2 else (if 8 ≤ (r1.2.1 387 13) then B_MD_dimension0_22 0 r1.2 else B_MD_dimension0_22 1 r1.2)))
theorem c_MD_dimension0 {G : x_G} {ex : Bool} {r : x_m}   {m : x_m} (h : F_MD_dimension0 m = some r) : x_R G M_MD_dimension0 (x_rd 7) ex [.ref 387] x_np (x_hp m) (x_pv r) := by
  unfold F_MD_dimension0 at h
  show x_W G M_MD_dimension0 (x_rd 7) (x_Q G (x_rd 7) ex (x_pv r)) ex x_np (x_hp m) 0 0 [(0, .ref 387)] [] 0
  refine x_aload_n d_MD_dimension0_0 rfl rfl ?_
  obtain ⟨r1, e1, h⟩ := x_bd h
  refine x_cVi (M2 := M_MD_newName) (As := []) (st := []) d_MD_dimension0_1 w_1339 k_MD_newName (c_MD_newName e1) rfl sh_MD hp_MD rfl ⟨Nat.le_of_ble_eq_true rfl, Nat.le_of_ble_eq_true rfl⟩ (Nat.le_of_ble_eq_true rfl) (Nat.le_of_ble_eq_true rfl) rfl ?_
  refine x_if_eq (tgt := 42) d_MD_dimension0_4 (by decide) (fun c_ => ?_) (fun c_ => ?_)
  · replace h := x_it h c_
    exact b_MD_dimension0_42 h
  · replace h := x_ie h c_
    refine x_aload_n d_MD_dimension0_7 rfl rfl ?_
    refine x_aload_n d_MD_dimension0_8 rfl rfl ?_
    refine x_gI d_MD_dimension0_9 (f_MD_150 rfl) sh_MD hp_MD rfl ?_
    refine x_bipush (v := 8) d_MD_dimension0_12 (by decide) ?_
    refine x_icmp_ge (tgt := 21) d_MD_dimension0_14 (by decide) (fun c_ => ?_) (fun c_ => ?_)
    · replace h := x_it h c_
      refine x_iconst (v := 0) d_MD_dimension0_21 (by decide) ?_
      exact b_MD_dimension0_22 h
    · replace h := x_ie h c_
      refine x_iconst (v := 1) d_MD_dimension0_17 (by decide) ?_
      refine x_goto (tgt := 22) d_MD_dimension0_18 (by decide) ?_
      exact b_MD_dimension0_22 h
def B_MD_isWord_21   (s0 : Int32) (m : x_m) : Option (Int32 × x_m) := (if x_b1 s0 = true then some (s0, m) else none)
theorem b_MD_isWord_21 {G : x_G} {ex : Bool} {r : Int32 × x_m}   {s0 : Int32} {m : x_m} (h : B_MD_isWord_21 s0 m = some r) : x_W G M_MD_isWord (x_rd 0) (x_Q G (x_rd 0) ex (x_pi r)) ex x_np (x_hp m) 0 0 [] [.int s0] 21 := by
  unfold B_MD_isWord_21 at h
  obtain ⟨g_21, h⟩ := x_gd h
  cases h
  exact x_ri d_MD_isWord_21 rfl (x_b1_ok g_21).1
def B_MD_isWord_20    (m : x_m) : Option (Int32 × x_m) := B_MD_isWord_21 0 m
theorem b_MD_isWord_20 {G : x_G} {ex : Bool} {r : Int32 × x_m}    {m : x_m} (h : B_MD_isWord_20 m = some r) : x_W G M_MD_isWord (x_rd 0) (x_Q G (x_rd 0) ex (x_pi r)) ex x_np (x_hp m) 0 0 [] [] 20 := by
  unfold B_MD_isWord_20 at h
  refine x_iconst (v := 0) d_MD_isWord_20 (by decide) ?_
  exact b_MD_isWord_21 h
def F_MD_isWord  (a1 : Int32) (m : x_m) : Option (Int32 × x_m) := (if (m.1 387 9) = 1 then (if (m.1 387 10) = a1 then B_MD_isWord_21 1 m else B_MD_isWord_20 m) else B_MD_isWord_20 m)
theorem c_MD_isWord {G : x_G} {ex : Bool} {r : Int32 × x_m}  {a1 : Int32} {m : x_m} (h : F_MD_isWord a1 m = some r) : x_R G M_MD_isWord (x_rd 0) ex [.ref 387, .int a1] x_np (x_hp m) (x_pi r) := by
  unfold F_MD_isWord at h
  show x_W G M_MD_isWord (x_rd 0) (x_Q G (x_rd 0) ex (x_pi r)) ex x_np (x_hp m) 0 0 [(0, .ref 387), (1, .int a1)] [] 0
  refine x_aload_n d_MD_isWord_0 rfl rfl ?_
  refine x_gI d_MD_isWord_1 (f_MD_86 rfl) sh_MD hp_MD rfl ?_
  refine x_iconst (v := 1) d_MD_isWord_4 (by decide) ?_
  refine x_icmp_ne (tgt := 20) d_MD_isWord_5 (by decide) (fun c_ => ?_) (fun c_ => ?_)
  · replace h := x_ie h c_
    refine x_sbk [] (lv2 := []) rfl ?_; exact b_MD_isWord_20 h
  · replace h := x_it h c_
    refine x_aload_n d_MD_isWord_8 rfl rfl ?_
    refine x_gI d_MD_isWord_9 (f_MD_80 rfl) sh_MD hp_MD rfl ?_
    refine x_iload_n d_MD_isWord_12 rfl rfl ?_
    refine x_icmp_ne (tgt := 20) d_MD_isWord_13 (by decide) (fun c_ => ?_) (fun c_ => ?_)
    · replace h := x_ie h c_
      refine x_sbk [] (lv2 := []) rfl ?_; exact b_MD_isWord_20 h
    · replace h := x_it h c_
      refine x_iconst (v := 1) d_MD_isWord_16 (by decide) ?_
      refine x_goto (tgt := 21) d_MD_isWord_17 (by decide) ?_
      refine x_sbk [] (lv2 := []) rfl ?_; exact b_MD_isWord_21 h
def B_MD_measure_71    (m : x_m) : Option (x_m) := some m
theorem b_MD_measure_71 {G : x_G} {ex : Bool} {r : x_m}    {m : x_m} (h : B_MD_measure_71 m = some r) : x_W G M_MD_measure (x_rd 7) (x_Q G (x_rd 7) ex (x_pv r)) ex x_np (x_hp m) 0 0 [] [] 71 := by
  unfold B_MD_measure_71 at h
  cases h
  exact x_rv d_MD_measure_71 rfl
def B_MD_measure_45    (m : x_m) : Option (x_m) := ((F_MD_needSign 59 m).bind fun r48 => (if r48.1 = 0 then B_MD_measure_71 r48.2 else (if (r48.2.1 387 5) = 0 then B_MD_measure_71 (x_wS r48.2 387 18 ((r48.2.1 387 18) + 1)) else B_MD_measure_71 r48.2)))
theorem b_MD_measure_45 {G : x_G} {ex : Bool} {r : x_m}    {m : x_m} (h : B_MD_measure_45 m = some r) : x_W G M_MD_measure (x_rd 7) (x_Q G (x_rd 7) ex (x_pv r)) ex x_np (x_hp m) 0 0 [(0, .ref 387)] [] 45 := by
  unfold B_MD_measure_45 at h
  refine x_aload_n d_MD_measure_45 rfl rfl ?_
  refine x_bipush (v := 59) d_MD_measure_46 (by decide) ?_
  obtain ⟨r48, e48, h⟩ := x_bd h
  refine x_cVi (M2 := M_MD_needSign) (As := [.int 59]) (st := []) d_MD_measure_48 w_1359 k_MD_needSign (c_MD_needSign e48) rfl sh_MD hp_MD rfl ⟨Nat.le_of_ble_eq_true rfl, Nat.le_of_ble_eq_true rfl⟩ (Nat.le_of_ble_eq_true rfl) (Nat.le_of_ble_eq_true rfl) rfl ?_
  refine x_if_eq (tgt := 71) d_MD_measure_51 (by decide) (fun c_ => ?_) (fun c_ => ?_)
  · replace h := x_it h c_
    refine x_sbk [] (lv2 := []) rfl ?_; exact b_MD_measure_71 h
  · replace h := x_ie h c_
    refine x_aload_n d_MD_measure_54 rfl rfl ?_
    refine x_gI d_MD_measure_55 (f_MD_67 rfl) sh_MD hp_MD rfl ?_
    refine x_if_ne (tgt := 71) d_MD_measure_58 (by decide) (fun c_ => ?_) (fun c_ => ?_)
    · replace h := x_ie h c_
      refine x_sbk [] (lv2 := []) rfl ?_; exact b_MD_measure_71 h
    · replace h := x_it h c_
      refine x_aload_n d_MD_measure_61 rfl rfl ?_
      refine x_dup d_MD_measure_62 rfl ?_
      refine x_gI d_MD_measure_63 (f_MD_157 rfl) sh_MD hp_MD rfl ?_
      refine x_iconst (v := 1) d_MD_measure_66 (by decide) ?_
      refine x_iadd d_MD_measure_67 ?_
      refine x_pI d_MD_measure_68 (f_MD_157 rfl) tb_MD rfl sh_MD hp_MD rfl ⟨rfl, rfl⟩ ?_
      refine x_sbk [] (lv2 := []) rfl ?_; exact b_MD_measure_71 h
def B_MD_measure_22   (s0 : Int32) (m : x_m) : Option (x_m) := ((F_MD_want s0 7 (m.1 387 8) m).bind fun r28 => (if r28.1 = 0 then B_MD_measure_45 r28.2 else ((F_MD_keep (40 + (r28.2.1 387 18)) r28.2).bind fun r42 => B_MD_measure_45 r42)))
theorem b_MD_measure_22 {G : x_G} {ex : Bool} {r : x_m}   {s0 : Int32} {m : x_m} (h : B_MD_measure_22 s0 m = some r) : x_W G M_MD_measure (x_rd 7) (x_Q G (x_rd 7) ex (x_pv r)) ex x_np (x_hp m) 0 0 [(0, .ref 387)] [.int s0, .ref 387] 22 := by
  unfold B_MD_measure_22 at h
  refine x_bipush (v := 7) d_MD_measure_22 (by decide) ?_
  refine x_aload_n d_MD_measure_24 rfl rfl ?_
  refine x_gI d_MD_measure_25 (f_MD_77 rfl) sh_MD hp_MD rfl ?_
  obtain ⟨r28, e28, h⟩ := x_bd h
  refine x_cVi (M2 := M_MD_want) (As := [.int s0, .int 7, .int (m.1 387 8)]) (st := []) d_MD_measure_28 w_1315 k_MD_want (c_MD_want e28) rfl sh_MD hp_MD rfl ⟨Nat.le_of_ble_eq_true rfl, Nat.le_of_ble_eq_true rfl⟩ (Nat.le_of_ble_eq_true rfl) (Nat.le_of_ble_eq_true rfl) rfl ?_
  refine x_if_eq (tgt := 45) d_MD_measure_31 (by decide) (fun c_ => ?_) (fun c_ => ?_)
  · replace h := x_it h c_
    exact b_MD_measure_45 h
  · replace h := x_ie h c_
    refine x_aload_n d_MD_measure_34 rfl rfl ?_
    refine x_bipush (v := 40) d_MD_measure_35 (by decide) ?_
    refine x_aload_n d_MD_measure_37 rfl rfl ?_
    refine x_gI d_MD_measure_38 (f_MD_157 rfl) sh_MD hp_MD rfl ?_
    refine x_iadd d_MD_measure_41 ?_
    obtain ⟨r42, e42, h⟩ := x_bd h
    refine x_cVv (M2 := M_MD_keep) (As := [.int (40 + (r28.2.1 387 18))]) (st := []) d_MD_measure_42 w_1355 k_MD_keep (c_MD_keep e42) rfl sh_MD hp_MD rfl ⟨Nat.le_of_ble_eq_true rfl, Nat.le_of_ble_eq_true rfl⟩ (Nat.le_of_ble_eq_true rfl) (Nat.le_of_ble_eq_true rfl) rfl ?_
    exact b_MD_measure_45 h
def F_MD_measure   (m : x_m) : Option (x_m) := ((F_MD_newName m).bind fun r1 => (if r1.1 = 0 then B_MD_measure_45 r1.2 else (if 8 ≤ (r1.2.1 387 18) then B_MD_measure_22 0 r1.2 else B_MD_measure_22 1 r1.2)))
theorem c_MD_measure {G : x_G} {ex : Bool} {r : x_m}   {m : x_m} (h : F_MD_measure m = some r) : x_R G M_MD_measure (x_rd 7) ex [.ref 387] x_np (x_hp m) (x_pv r) := by
  unfold F_MD_measure at h
  show x_W G M_MD_measure (x_rd 7) (x_Q G (x_rd 7) ex (x_pv r)) ex x_np (x_hp m) 0 0 [(0, .ref 387)] [] 0
  refine x_aload_n d_MD_measure_0 rfl rfl ?_
  obtain ⟨r1, e1, h⟩ := x_bd h
  refine x_cVi (M2 := M_MD_newName) (As := []) (st := []) d_MD_measure_1 w_1339 k_MD_newName (c_MD_newName e1) rfl sh_MD hp_MD rfl ⟨Nat.le_of_ble_eq_true rfl, Nat.le_of_ble_eq_true rfl⟩ (Nat.le_of_ble_eq_true rfl) (Nat.le_of_ble_eq_true rfl) rfl ?_
  refine x_if_eq (tgt := 45) d_MD_measure_4 (by decide) (fun c_ => ?_) (fun c_ => ?_)
  · replace h := x_it h c_
    exact b_MD_measure_45 h
  · replace h := x_ie h c_
    refine x_aload_n d_MD_measure_7 rfl rfl ?_
    refine x_aload_n d_MD_measure_8 rfl rfl ?_
    refine x_gI d_MD_measure_9 (f_MD_157 rfl) sh_MD hp_MD rfl ?_
    refine x_bipush (v := 8) d_MD_measure_12 (by decide) ?_
    refine x_icmp_ge (tgt := 21) d_MD_measure_14 (by decide) (fun c_ => ?_) (fun c_ => ?_)
    · replace h := x_it h c_
      refine x_iconst (v := 0) d_MD_measure_21 (by decide) ?_
      exact b_MD_measure_22 h
    · replace h := x_ie h c_
      refine x_iconst (v := 1) d_MD_measure_17 (by decide) ?_
      refine x_goto (tgt := 22) d_MD_measure_18 (by decide) ?_
      exact b_MD_measure_22 h
def B_MD_goes_127  (K13 : Int32 → Int32 → Int32 → Int32 → x_m → Option (Int32 × x_m)) (K55 : Int32 → Int32 → Int32 → Int32 → Int32 → Int32 → Int32 → x_m → Option (Int32 × x_m)) (l1 : Int32) (l2 : Int32) (l3 : Int32) (l4 : Int32) (l5 : Int32) (l7 : Int32) (s0 : Int32) (m : x_m) : Option (Int32 × x_m) := K55 l1 l2 l3 l4 l5 s0 (l7 + 1) m
theorem b_MD_goes_127 {G : x_G} {ex : Bool} {r : Int32 × x_m}  {K13 : Int32 → Int32 → Int32 → Int32 → x_m → Option (Int32 × x_m)} (hK13 : ∀ (l1 : Int32) (l2 : Int32) (l3 : Int32) (l4 : Int32) (m : x_m), K13 l1 l2 l3 l4 m = some r → x_W G M_MD_goes (x_rd 0) (x_Q G (x_rd 0) ex (x_pi r)) ex x_np (x_hp m) 0 0 [(0, .ref 387), (1, .int l1), (2, .int l2), (3, .int l3), (4, .int l4)] [] 13) {K55 : Int32 → Int32 → Int32 → Int32 → Int32 → Int32 → Int32 → x_m → Option (Int32 × x_m)} (hK55 : ∀ (l1 : Int32) (l2 : Int32) (l3 : Int32) (l4 : Int32) (l5 : Int32) (l6 : Int32) (l7 : Int32) (m : x_m), K55 l1 l2 l3 l4 l5 l6 l7 m = some r → x_W G M_MD_goes (x_rd 0) (x_Q G (x_rd 0) ex (x_pi r)) ex x_np (x_hp m) 0 0 [(0, .ref 387), (1, .int l1), (2, .int l2), (3, .int l3), (4, .int l4), (5, .int l5), (6, .int l6), (7, .int l7)] [] 55) {l1 : Int32} {l2 : Int32} {l3 : Int32} {l4 : Int32} {l5 : Int32} {l7 : Int32} {s0 : Int32} {m : x_m} (h : B_MD_goes_127 K13 K55 l1 l2 l3 l4 l5 l7 s0 m = some r) : x_W G M_MD_goes (x_rd 0) (x_Q G (x_rd 0) ex (x_pi r)) ex x_np (x_hp m) 0 0 [(0, .ref 387), (1, .int l1), (2, .int l2), (3, .int l3), (4, .int l4), (5, .int l5), (7, .int l7)] [.int s0] 127 := by
  unfold B_MD_goes_127 at h
  refine x_istore (lv2 := [(0, .ref 387), (1, .int l1), (2, .int l2), (3, .int l3), (4, .int l4), (5, .int l5), (6, .int s0), (7, .int l7)]) d_MD_goes_127 (by decide) rfl ?_
  refine x_iinc (v := l7 + 1) (lv2 := [(0, .ref 387), (1, .int l1), (2, .int l2), (3, .int l3), (4, .int l4), (5, .int l5), (6, .int s0), (7, .int (l7 + 1))]) d_MD_goes_129 rfl rfl (by decide) rfl ?_
  refine x_goto (tgt := 55) d_MD_goes_132 (by decide) ?_
  exact hK55 _ _ _ _ _ _ _ _ h
def B_MD_goes_122  (K13 : Int32 → Int32 → Int32 → Int32 → x_m → Option (Int32 × x_m)) (K55 : Int32 → Int32 → Int32 → Int32 → Int32 → Int32 → Int32 → x_m → Option (Int32 × x_m)) (l1 : Int32) (l2 : Int32) (l3 : Int32) (l4 : Int32) (l5 : Int32) (l7 : Int32) (m : x_m) : Option (Int32 × x_m) := B_MD_goes_127 K13 K55 l1 l2 l3 l4 l5 l7 1 m
theorem b_MD_goes_122 {G : x_G} {ex : Bool} {r : Int32 × x_m}  {K13 : Int32 → Int32 → Int32 → Int32 → x_m → Option (Int32 × x_m)} (hK13 : ∀ (l1 : Int32) (l2 : Int32) (l3 : Int32) (l4 : Int32) (m : x_m), K13 l1 l2 l3 l4 m = some r → x_W G M_MD_goes (x_rd 0) (x_Q G (x_rd 0) ex (x_pi r)) ex x_np (x_hp m) 0 0 [(0, .ref 387), (1, .int l1), (2, .int l2), (3, .int l3), (4, .int l4)] [] 13) {K55 : Int32 → Int32 → Int32 → Int32 → Int32 → Int32 → Int32 → x_m → Option (Int32 × x_m)} (hK55 : ∀ (l1 : Int32) (l2 : Int32) (l3 : Int32) (l4 : Int32) (l5 : Int32) (l6 : Int32) (l7 : Int32) (m : x_m), K55 l1 l2 l3 l4 l5 l6 l7 m = some r → x_W G M_MD_goes (x_rd 0) (x_Q G (x_rd 0) ex (x_pi r)) ex x_np (x_hp m) 0 0 [(0, .ref 387), (1, .int l1), (2, .int l2), (3, .int l3), (4, .int l4), (5, .int l5), (6, .int l6), (7, .int l7)] [] 55) {l1 : Int32} {l2 : Int32} {l3 : Int32} {l4 : Int32} {l5 : Int32} {l7 : Int32} {m : x_m} (h : B_MD_goes_122 K13 K55 l1 l2 l3 l4 l5 l7 m = some r) : x_W G M_MD_goes (x_rd 0) (x_Q G (x_rd 0) ex (x_pi r)) ex x_np (x_hp m) 0 0 [(0, .ref 387), (1, .int l1), (2, .int l2), (3, .int l3), (4, .int l4), (5, .int l5), (7, .int l7)] [] 122 := by
  unfold B_MD_goes_122 at h
  refine x_iconst (v := 1) d_MD_goes_122 (by decide) ?_
  refine x_goto (tgt := 127) d_MD_goes_123 (by decide) ?_
  exact b_MD_goes_127 hK13 hK55 h
def B_MD_goes_95  (K13 : Int32 → Int32 → Int32 → Int32 → x_m → Option (Int32 × x_m)) (K55 : Int32 → Int32 → Int32 → Int32 → Int32 → Int32 → Int32 → x_m → Option (Int32 × x_m)) (l1 : Int32) (l2 : Int32) (l3 : Int32) (l4 : Int32) (l5 : Int32) (l6 : Int32) (l7 : Int32) (m : x_m) : Option (Int32 × x_m) := (if l6 = 0 then (if x_ix (l5 + l7) 32000 = true then (if x_ix (l3 + l7) 32000 = true then (if (m.2.1 391 (l5 + l7).toNatClampNeg) = (m.2.1 391 (l3 + l7).toNatClampNeg) then B_MD_goes_122 K13 K55 l1 l2 l3 l4 l5 l7 m else B_MD_goes_127 K13 K55 l1 l2 l3 l4 l5 l7 0 m) else none) else none) else B_MD_goes_122 K13 K55 l1 l2 l3 l4 l5 l7 m)
theorem b_MD_goes_95 {G : x_G} {ex : Bool} {r : Int32 × x_m}  {K13 : Int32 → Int32 → Int32 → Int32 → x_m → Option (Int32 × x_m)} (hK13 : ∀ (l1 : Int32) (l2 : Int32) (l3 : Int32) (l4 : Int32) (m : x_m), K13 l1 l2 l3 l4 m = some r → x_W G M_MD_goes (x_rd 0) (x_Q G (x_rd 0) ex (x_pi r)) ex x_np (x_hp m) 0 0 [(0, .ref 387), (1, .int l1), (2, .int l2), (3, .int l3), (4, .int l4)] [] 13) {K55 : Int32 → Int32 → Int32 → Int32 → Int32 → Int32 → Int32 → x_m → Option (Int32 × x_m)} (hK55 : ∀ (l1 : Int32) (l2 : Int32) (l3 : Int32) (l4 : Int32) (l5 : Int32) (l6 : Int32) (l7 : Int32) (m : x_m), K55 l1 l2 l3 l4 l5 l6 l7 m = some r → x_W G M_MD_goes (x_rd 0) (x_Q G (x_rd 0) ex (x_pi r)) ex x_np (x_hp m) 0 0 [(0, .ref 387), (1, .int l1), (2, .int l2), (3, .int l3), (4, .int l4), (5, .int l5), (6, .int l6), (7, .int l7)] [] 55) {l1 : Int32} {l2 : Int32} {l3 : Int32} {l4 : Int32} {l5 : Int32} {l6 : Int32} {l7 : Int32} {m : x_m} (h : B_MD_goes_95 K13 K55 l1 l2 l3 l4 l5 l6 l7 m = some r) : x_W G M_MD_goes (x_rd 0) (x_Q G (x_rd 0) ex (x_pi r)) ex x_np (x_hp m) 0 0 [(0, .ref 387), (1, .int l1), (2, .int l2), (3, .int l3), (4, .int l4), (5, .int l5), (6, .int l6), (7, .int l7)] [] 95 := by
  unfold B_MD_goes_95 at h
  refine x_iload d_MD_goes_95 rfl ?_
  refine x_if_ne (tgt := 122) d_MD_goes_97 (by decide) (fun c_ => ?_) (fun c_ => ?_)
  · replace h := x_ie h c_
    refine x_sbk [0, 1, 2, 3, 4, 5, 7] (lv2 := [(0, .ref 387), (1, .int l1), (2, .int l2), (3, .int l3), (4, .int l4), (5, .int l5), (7, .int l7)]) rfl ?_; exact b_MD_goes_122 hK13 hK55 h
  · replace h := x_it h c_
    refine x_aload_n d_MD_goes_100 rfl rfl ?_
    refine x_gC d_MD_goes_101 (f_MD_31 rfl) sh_MD hp_MD rfl ?_
    refine x_iload d_MD_goes_104 rfl ?_
    refine x_iload d_MD_goes_106 rfl ?_
    refine x_iadd d_MD_goes_108 ?_
    obtain ⟨g_109, h⟩ := x_gd h
    refine x_lI d_MD_goes_109 rfl sa_MD_values ha_MD_values g_109 ?_
    refine x_aload_n d_MD_goes_110 rfl rfl ?_
    refine x_gC d_MD_goes_111 (f_MD_31 rfl) sh_MD hp_MD rfl ?_
    refine x_iload_n d_MD_goes_114 rfl rfl ?_
    refine x_iload d_MD_goes_115 rfl ?_
    refine x_iadd d_MD_goes_117 ?_
    obtain ⟨g_118, h⟩ := x_gd h
    refine x_lI d_MD_goes_118 rfl sa_MD_values ha_MD_values g_118 ?_
    refine x_icmp_ne (tgt := 126) d_MD_goes_119 (by decide) (fun c_ => ?_) (fun c_ => ?_)
    · replace h := x_ie h c_
      refine x_iconst (v := 0) d_MD_goes_126 (by decide) ?_
      refine x_sbk [0, 1, 2, 3, 4, 5, 7] (lv2 := [(0, .ref 387), (1, .int l1), (2, .int l2), (3, .int l3), (4, .int l4), (5, .int l5), (7, .int l7)]) rfl ?_; exact b_MD_goes_127 hK13 hK55 h
    · replace h := x_it h c_
      refine x_sbk [0, 1, 2, 3, 4, 5, 7] (lv2 := [(0, .ref 387), (1, .int l1), (2, .int l2), (3, .int l3), (4, .int l4), (5, .int l5), (7, .int l7)]) rfl ?_; exact b_MD_goes_122 hK13 hK55 h
def B_MD_goes_55  (K13 : Int32 → Int32 → Int32 → Int32 → x_m → Option (Int32 × x_m)) : Nat → Int32 → Int32 → Int32 → Int32 → Int32 → Int32 → Int32 → x_m → Option (Int32 × x_m)
  | 0, _, _, _, _, _, _, _, _ => none
  | f_ + 1, l1, l2, l3, l4, l5, l6, l7, m => (if x_ix l1 8 = true then (if (m.2.1 389 l1.toNatClampNeg) ≤ l7 then K13 l1 l2 l3 (l4 + 1) m else (if l6 = 0 then B_MD_goes_95 K13 (B_MD_goes_55 K13 f_) l1 l2 l3 l4 l5 l6 l7 m else (if x_ix (l5 + l7) 32000 = true then (if x_ix (l3 + l7) 32000 = true then (if (m.2.1 391 (l5 + l7).toNatClampNeg) = (m.2.1 391 (l3 + l7).toNatClampNeg) then B_MD_goes_95 K13 (B_MD_goes_55 K13 f_) l1 l2 l3 l4 l5 l6 l7 m else some (0, m)) else none) else none))) else none)
theorem b_MD_goes_55 {G : x_G} {ex : Bool} {r : Int32 × x_m}  {K13 : Int32 → Int32 → Int32 → Int32 → x_m → Option (Int32 × x_m)} (hK13 : ∀ (l1 : Int32) (l2 : Int32) (l3 : Int32) (l4 : Int32) (m : x_m), K13 l1 l2 l3 l4 m = some r → x_W G M_MD_goes (x_rd 0) (x_Q G (x_rd 0) ex (x_pi r)) ex x_np (x_hp m) 0 0 [(0, .ref 387), (1, .int l1), (2, .int l2), (3, .int l3), (4, .int l4)] [] 13) : ∀ (f_ : Nat) (l1 : Int32) (l2 : Int32) (l3 : Int32) (l4 : Int32) (l5 : Int32) (l6 : Int32) (l7 : Int32) (m : x_m), B_MD_goes_55 K13 f_ l1 l2 l3 l4 l5 l6 l7 m = some r → x_W G M_MD_goes (x_rd 0) (x_Q G (x_rd 0) ex (x_pi r)) ex x_np (x_hp m) 0 0 [(0, .ref 387), (1, .int l1), (2, .int l2), (3, .int l3), (4, .int l4), (5, .int l5), (6, .int l6), (7, .int l7)] [] 55 := by
  intro f_
  induction f_ with
  | zero => intro l1 l2 l3 l4 l5 l6 l7 m h; exact nomatch h
  | succ f_ ih =>
    intro l1 l2 l3 l4 l5 l6 l7 m h
    rw [B_MD_goes_55] at h
    have hK55 := ih
    refine x_iload d_MD_goes_55 rfl ?_
    refine x_aload_n d_MD_goes_57 rfl rfl ?_
    refine x_gC d_MD_goes_58 (f_MD_24 rfl) sh_MD hp_MD rfl ?_
    refine x_iload_n d_MD_goes_61 rfl rfl ?_
    obtain ⟨g_62, h⟩ := x_gd h
    refine x_lI d_MD_goes_62 rfl sa_MD_levels ha_MD_levels g_62 ?_
    refine x_icmp_ge (tgt := 135) d_MD_goes_63 (by decide) (fun c_ => ?_) (fun c_ => ?_)
    · replace h := x_it h c_
      refine x_iinc (v := l4 + 1) (lv2 := [(0, .ref 387), (1, .int l1), (2, .int l2), (3, .int l3), (4, .int (l4 + 1)), (5, .int l5), (6, .int l6), (7, .int l7)]) d_MD_goes_135 rfl rfl (by decide) rfl ?_
      refine x_goto (tgt := 13) d_MD_goes_138 (by decide) ?_
      refine x_sbk [0, 1, 2, 3, 4] (lv2 := [(0, .ref 387), (1, .int l1), (2, .int l2), (3, .int l3), (4, .int (l4 + 1))]) rfl ?_; exact hK13 _ _ _ _ _ h
    · replace h := x_ie h c_
      refine x_iload d_MD_goes_66 rfl ?_
      refine x_if_eq (tgt := 95) d_MD_goes_68 (by decide) (fun c_ => ?_) (fun c_ => ?_)
      · replace h := x_it h c_
        exact b_MD_goes_95 hK13 hK55 h
      · replace h := x_ie h c_
        refine x_aload_n d_MD_goes_71 rfl rfl ?_
        refine x_gC d_MD_goes_72 (f_MD_31 rfl) sh_MD hp_MD rfl ?_
        refine x_iload d_MD_goes_75 rfl ?_
        refine x_iload d_MD_goes_77 rfl ?_
        refine x_iadd d_MD_goes_79 ?_
        obtain ⟨g_80, h⟩ := x_gd h
        refine x_lI d_MD_goes_80 rfl sa_MD_values ha_MD_values g_80 ?_
        refine x_aload_n d_MD_goes_81 rfl rfl ?_
        refine x_gC d_MD_goes_82 (f_MD_31 rfl) sh_MD hp_MD rfl ?_
        refine x_iload_n d_MD_goes_85 rfl rfl ?_
        refine x_iload d_MD_goes_86 rfl ?_
        refine x_iadd d_MD_goes_88 ?_
        obtain ⟨g_89, h⟩ := x_gd h
        refine x_lI d_MD_goes_89 rfl sa_MD_values ha_MD_values g_89 ?_
        refine x_icmp_eq (tgt := 95) d_MD_goes_90 (by decide) (fun c_ => ?_) (fun c_ => ?_)
        · replace h := x_it h c_
          exact b_MD_goes_95 hK13 hK55 h
        · replace h := x_ie h c_
          refine x_iconst (v := 0) d_MD_goes_93 (by decide) ?_
          cases h
          exact x_ri d_MD_goes_94 rfl rfl
def B_MD_goes_13   : Nat → Int32 → Int32 → Int32 → Int32 → x_m → Option (Int32 × x_m)
  | 0, _, _, _, _, _ => none
  | f_ + 1, l1, l2, l3, l4, m => (if l2 ≤ l4 then some (1, m) else (if x_ix ((4000 * l1) + (4 * l4)) 32000 = true then (if x_ix l3 32000 = true then (if (m.2.1 391 ((4000 * l1) + (4 * l4)).toNatClampNeg) = (m.2.1 391 l3.toNatClampNeg) then some (0, m) else B_MD_goes_55 (B_MD_goes_13 f_) x_fu l1 l2 l3 l4 ((4000 * l1) + (4 * l4)) 0 0 m) else none) else none))
theorem b_MD_goes_13 {G : x_G} {ex : Bool} {r : Int32 × x_m}   : ∀ (f_ : Nat) (l1 : Int32) (l2 : Int32) (l3 : Int32) (l4 : Int32) (m : x_m), B_MD_goes_13 f_ l1 l2 l3 l4 m = some r → x_W G M_MD_goes (x_rd 0) (x_Q G (x_rd 0) ex (x_pi r)) ex x_np (x_hp m) 0 0 [(0, .ref 387), (1, .int l1), (2, .int l2), (3, .int l3), (4, .int l4)] [] 13 := by
  intro f_
  induction f_ with
  | zero => intro l1 l2 l3 l4 m h; exact nomatch h
  | succ f_ ih =>
    intro l1 l2 l3 l4 m h
    rw [B_MD_goes_13] at h
    have hK13 := ih
    refine x_iload d_MD_goes_13 rfl ?_
    refine x_iload_n d_MD_goes_15 rfl rfl ?_
    refine x_icmp_ge (tgt := 141) d_MD_goes_16 (by decide) (fun c_ => ?_) (fun c_ => ?_)
    · replace h := x_it h c_
      refine x_iconst (v := 1) d_MD_goes_141 (by decide) ?_
      cases h
      exact x_ri d_MD_goes_142 rfl rfl
    · replace h := x_ie h c_
      refine x_sipush (v := 4000) d_MD_goes_19 (by decide) ?_
      refine x_iload_n d_MD_goes_22 rfl rfl ?_
      refine x_imul d_MD_goes_23 ?_
      refine x_iconst (v := 4) d_MD_goes_24 (by decide) ?_
      refine x_iload d_MD_goes_25 rfl ?_
      refine x_imul d_MD_goes_27 ?_
      refine x_iadd d_MD_goes_28 ?_
      refine x_istore (lv2 := [(0, .ref 387), (1, .int l1), (2, .int l2), (3, .int l3), (4, .int l4), (5, .int ((4000 * l1) + (4 * l4)))]) d_MD_goes_29 (by decide) rfl ?_
      refine x_aload_n d_MD_goes_31 rfl rfl ?_
      refine x_gC d_MD_goes_32 (f_MD_31 rfl) sh_MD hp_MD rfl ?_
      refine x_iload d_MD_goes_35 rfl ?_
      obtain ⟨g_37, h⟩ := x_gd h
      refine x_lI d_MD_goes_37 rfl sa_MD_values ha_MD_values g_37 ?_
      refine x_aload_n d_MD_goes_38 rfl rfl ?_
      refine x_gC d_MD_goes_39 (f_MD_31 rfl) sh_MD hp_MD rfl ?_
      refine x_iload_n d_MD_goes_42 rfl rfl ?_
      obtain ⟨g_43, h⟩ := x_gd h
      refine x_lI d_MD_goes_43 rfl sa_MD_values ha_MD_values g_43 ?_
      refine x_icmp_ne (tgt := 49) d_MD_goes_44 (by decide) (fun c_ => ?_) (fun c_ => ?_)
      · replace h := x_ie h c_
        refine x_iconst (v := 0) d_MD_goes_49 (by decide) ?_
        refine x_istore (lv2 := [(0, .ref 387), (1, .int l1), (2, .int l2), (3, .int l3), (4, .int l4), (5, .int ((4000 * l1) + (4 * l4))), (6, .int 0)]) d_MD_goes_50 (by decide) rfl ?_
        refine x_iconst (v := 0) d_MD_goes_52 (by decide) ?_
        refine x_istore (lv2 := [(0, .ref 387), (1, .int l1), (2, .int l2), (3, .int l3), (4, .int l4), (5, .int ((4000 * l1) + (4 * l4))), (6, .int 0), (7, .int 0)]) d_MD_goes_53 (by decide) rfl ?_
        exact b_MD_goes_55 hK13 _ _ _ _ _ _ _ _ _ h
      · replace h := x_it h c_
        refine x_iconst (v := 0) d_MD_goes_47 (by decide) ?_
        cases h
        exact x_ri d_MD_goes_48 rfl rfl
def F_MD_goes  (a1 : Int32) (a2 : Int32) (m : x_m) : Option (Int32 × x_m) := B_MD_goes_13 x_fu a1 a2 ((4000 * a1) + (4 * a2)) 0 m
theorem c_MD_goes {G : x_G} {ex : Bool} {r : Int32 × x_m}  {a1 : Int32} {a2 : Int32} {m : x_m} (h : F_MD_goes a1 a2 m = some r) : x_R G M_MD_goes (x_rd 0) ex [.ref 387, .int a1, .int a2] x_np (x_hp m) (x_pi r) := by
  unfold F_MD_goes at h
  show x_W G M_MD_goes (x_rd 0) (x_Q G (x_rd 0) ex (x_pi r)) ex x_np (x_hp m) 0 0 [(0, .ref 387), (1, .int a1), (2, .int a2)] [] 0
  refine x_sipush (v := 4000) d_MD_goes_0 (by decide) ?_
  refine x_iload_n d_MD_goes_3 rfl rfl ?_
  refine x_imul d_MD_goes_4 ?_
  refine x_iconst (v := 4) d_MD_goes_5 (by decide) ?_
  refine x_iload_n d_MD_goes_6 rfl rfl ?_
  refine x_imul d_MD_goes_7 ?_
  refine x_iadd d_MD_goes_8 ?_
  refine x_istore_n (lv2 := [(0, .ref 387), (1, .int a1), (2, .int a2), (3, .int ((4000 * a1) + (4 * a2)))]) d_MD_goes_9 rfl (by decide) rfl ?_
  refine x_iconst (v := 0) d_MD_goes_10 (by decide) ?_
  refine x_istore (lv2 := [(0, .ref 387), (1, .int a1), (2, .int a2), (3, .int ((4000 * a1) + (4 * a2))), (4, .int 0)]) d_MD_goes_11 (by decide) rfl ?_
  exact b_MD_goes_13 _ _ _ _ _ _ h
def B_MD_member_370   (s0 : Int32) (s1 : Int32) (m : x_m) : Option (x_m) := (if x_ix s1 8 = true then some (x_wA m 390 s1.toNatClampNeg s0) else none)
theorem b_MD_member_370 {G : x_G} {ex : Bool} {r : x_m}   {s0 : Int32} {s1 : Int32} {m : x_m} (h : B_MD_member_370 s0 s1 m = some r) : x_W G M_MD_member (x_rd 7) (x_Q G (x_rd 7) ex (x_pv r)) ex x_np (x_hp m) 0 0 [] [.int s0, .int s1, .ref 390] 370 := by
  unfold B_MD_member_370 at h
  obtain ⟨g_370, h⟩ := x_gd h
  refine x_sI d_MD_member_370 rfl sa_MD_members ha_MD_members g_370 ?_
  cases h
  exact x_rv d_MD_member_371 rfl
def B_MD_member_344  (K56 : Int32 → Int32 → Int32 → x_m → Option (x_m)) (l1 : Int32) (l2 : Int32) (s0 : Int32) (m : x_m) : Option (x_m) := K56 l1 l2 s0 m
theorem b_MD_member_344 {G : x_G} {ex : Bool} {r : x_m}  {K56 : Int32 → Int32 → Int32 → x_m → Option (x_m)} (hK56 : ∀ (l1 : Int32) (l2 : Int32) (l3 : Int32) (m : x_m), K56 l1 l2 l3 m = some r → x_W G M_MD_member (x_rd 7) (x_Q G (x_rd 7) ex (x_pv r)) ex x_np (x_hp m) 0 0 [(0, .ref 387), (1, .int l1), (2, .int l2), (3, .int l3)] [] 56) {l1 : Int32} {l2 : Int32} {s0 : Int32} {m : x_m} (h : B_MD_member_344 K56 l1 l2 s0 m = some r) : x_W G M_MD_member (x_rd 7) (x_Q G (x_rd 7) ex (x_pv r)) ex x_np (x_hp m) 0 0 [(0, .ref 387), (1, .int l1), (2, .int l2)] [.int s0] 344 := by
  unfold B_MD_member_344 at h
  refine x_istore_n (lv2 := [(0, .ref 387), (1, .int l1), (2, .int l2), (3, .int s0)]) d_MD_member_344 rfl (by decide) rfl ?_
  refine x_goto (tgt := 56) d_MD_member_345 (by decide) ?_
  exact hK56 _ _ _ _ h
def B_MD_member_343  (K56 : Int32 → Int32 → Int32 → x_m → Option (x_m)) (l1 : Int32) (l2 : Int32) (m : x_m) : Option (x_m) := B_MD_member_344 K56 l1 l2 0 m
theorem b_MD_member_343 {G : x_G} {ex : Bool} {r : x_m}  {K56 : Int32 → Int32 → Int32 → x_m → Option (x_m)} (hK56 : ∀ (l1 : Int32) (l2 : Int32) (l3 : Int32) (m : x_m), K56 l1 l2 l3 m = some r → x_W G M_MD_member (x_rd 7) (x_Q G (x_rd 7) ex (x_pv r)) ex x_np (x_hp m) 0 0 [(0, .ref 387), (1, .int l1), (2, .int l2), (3, .int l3)] [] 56) {l1 : Int32} {l2 : Int32} {m : x_m} (h : B_MD_member_343 K56 l1 l2 m = some r) : x_W G M_MD_member (x_rd 7) (x_Q G (x_rd 7) ex (x_pv r)) ex x_np (x_hp m) 0 0 [(0, .ref 387), (1, .int l1), (2, .int l2)] [] 343 := by
  unfold B_MD_member_343 at h
  refine x_iconst (v := 0) d_MD_member_343 (by decide) ?_
  exact b_MD_member_344 hK56 h
def B_MD_member_324  (K56 : Int32 → Int32 → Int32 → x_m → Option (x_m)) (l1 : Int32) (l2 : Int32) (s0 : Int32) (m : x_m) : Option (x_m) := ((F_MD_must s0 m).bind fun r324 => (if r324.1 = 0 then B_MD_member_343 K56 l1 l2 r324.2 else ((F_MD_isSign 44 r324.2).bind fun r333 => (if r333.1 = 0 then B_MD_member_343 K56 l1 l2 r333.2 else B_MD_member_344 K56 l1 l2 1 r333.2))))
theorem b_MD_member_324 {G : x_G} {ex : Bool} {r : x_m}  {K56 : Int32 → Int32 → Int32 → x_m → Option (x_m)} (hK56 : ∀ (l1 : Int32) (l2 : Int32) (l3 : Int32) (m : x_m), K56 l1 l2 l3 m = some r → x_W G M_MD_member (x_rd 7) (x_Q G (x_rd 7) ex (x_pv r)) ex x_np (x_hp m) 0 0 [(0, .ref 387), (1, .int l1), (2, .int l2), (3, .int l3)] [] 56) {l1 : Int32} {l2 : Int32} {s0 : Int32} {m : x_m} (h : B_MD_member_324 K56 l1 l2 s0 m = some r) : x_W G M_MD_member (x_rd 7) (x_Q G (x_rd 7) ex (x_pv r)) ex x_np (x_hp m) 0 0 [(0, .ref 387), (1, .int l1), (2, .int l2)] [.int s0, .ref 387] 324 := by
  unfold B_MD_member_324 at h
  obtain ⟨r324, e324, h⟩ := x_bd h
  refine x_cVi (M2 := M_MD_must) (As := [.int s0]) (st := []) d_MD_member_324 w_1331 k_MD_must (c_MD_must e324) rfl sh_MD hp_MD rfl ⟨Nat.le_of_ble_eq_true rfl, Nat.le_of_ble_eq_true rfl⟩ (Nat.le_of_ble_eq_true rfl) (Nat.le_of_ble_eq_true rfl) rfl ?_
  refine x_if_eq (tgt := 343) d_MD_member_327 (by decide) (fun c_ => ?_) (fun c_ => ?_)
  · replace h := x_it h c_
    exact b_MD_member_343 hK56 h
  · replace h := x_ie h c_
    refine x_aload_n d_MD_member_330 rfl rfl ?_
    refine x_bipush (v := 44) d_MD_member_331 (by decide) ?_
    obtain ⟨r333, e333, h⟩ := x_bd h
    refine x_cVi (M2 := M_MD_isSign) (As := [.int 44]) (st := []) d_MD_member_333 w_1363 k_MD_isSign (c_MD_isSign e333) rfl sh_MD hp_MD rfl ⟨Nat.le_of_ble_eq_true rfl, Nat.le_of_ble_eq_true rfl⟩ (Nat.le_of_ble_eq_true rfl) (Nat.le_of_ble_eq_true rfl) rfl ?_
    refine x_if_eq (tgt := 343) d_MD_member_336 (by decide) (fun c_ => ?_) (fun c_ => ?_)
    · replace h := x_it h c_
      exact b_MD_member_343 hK56 h
    · replace h := x_ie h c_
      refine x_iconst (v := 1) d_MD_member_339 (by decide) ?_
      refine x_goto (tgt := 344) d_MD_member_340 (by decide) ?_
      exact b_MD_member_344 hK56 h
def B_MD_member_319  (K56 : Int32 → Int32 → Int32 → x_m → Option (x_m)) (l1 : Int32) (l2 : Int32) (m : x_m) : Option (x_m) := B_MD_member_324 K56 l1 l2 1 m
theorem b_MD_member_319 {G : x_G} {ex : Bool} {r : x_m}  {K56 : Int32 → Int32 → Int32 → x_m → Option (x_m)} (hK56 : ∀ (l1 : Int32) (l2 : Int32) (l3 : Int32) (m : x_m), K56 l1 l2 l3 m = some r → x_W G M_MD_member (x_rd 7) (x_Q G (x_rd 7) ex (x_pv r)) ex x_np (x_hp m) 0 0 [(0, .ref 387), (1, .int l1), (2, .int l2), (3, .int l3)] [] 56) {l1 : Int32} {l2 : Int32} {m : x_m} (h : B_MD_member_319 K56 l1 l2 m = some r) : x_W G M_MD_member (x_rd 7) (x_Q G (x_rd 7) ex (x_pv r)) ex x_np (x_hp m) 0 0 [(0, .ref 387), (1, .int l1), (2, .int l2)] [.ref 387] 319 := by
  unfold B_MD_member_319 at h
  refine x_iconst (v := 1) d_MD_member_319 (by decide) ?_
  refine x_goto (tgt := 324) d_MD_member_320 (by decide) ?_
  exact b_MD_member_324 hK56 h
def B_MD_member_293  (K56 : Int32 → Int32 → Int32 → x_m → Option (x_m)) (l1 : Int32) (l2 : Int32) (m : x_m) : Option (x_m) := ((F_MD_read m).bind fun r297 => ((F_MD_isSign 44 r297).bind fun r304 => (if r304.1 = 0 then ((F_MD_isSign 59 r304.2).bind fun r313 => (if r313.1 = 0 then B_MD_member_324 K56 l1 (l2 + 1) 0 r313.2 else B_MD_member_319 K56 l1 (l2 + 1) r313.2)) else B_MD_member_319 K56 l1 (l2 + 1) r304.2)))
theorem b_MD_member_293 {G : x_G} {ex : Bool} {r : x_m}  {K56 : Int32 → Int32 → Int32 → x_m → Option (x_m)} (hK56 : ∀ (l1 : Int32) (l2 : Int32) (l3 : Int32) (m : x_m), K56 l1 l2 l3 m = some r → x_W G M_MD_member (x_rd 7) (x_Q G (x_rd 7) ex (x_pv r)) ex x_np (x_hp m) 0 0 [(0, .ref 387), (1, .int l1), (2, .int l2), (3, .int l3)] [] 56) {l1 : Int32} {l2 : Int32} {m : x_m} (h : B_MD_member_293 K56 l1 l2 m = some r) : x_W G M_MD_member (x_rd 7) (x_Q G (x_rd 7) ex (x_pv r)) ex x_np (x_hp m) 0 0 [(0, .ref 387), (1, .int l1), (2, .int l2)] [] 293 := by
  unfold B_MD_member_293 at h
  refine x_iinc (v := l2 + 1) (lv2 := [(0, .ref 387), (1, .int l1), (2, .int (l2 + 1))]) d_MD_member_293 rfl rfl (by decide) rfl ?_
  refine x_aload_n d_MD_member_296 rfl rfl ?_
  obtain ⟨r297, e297, h⟩ := x_bd h
  refine x_cVv (M2 := M_MD_read) (As := []) (st := []) d_MD_member_297 w_1240 k_MD_read (c_MD_read e297) rfl sh_MD hp_MD rfl ⟨Nat.le_of_ble_eq_true rfl, Nat.le_of_ble_eq_true rfl⟩ (Nat.le_of_ble_eq_true rfl) (Nat.le_of_ble_eq_true rfl) rfl ?_
  refine x_aload_n d_MD_member_300 rfl rfl ?_
  refine x_aload_n d_MD_member_301 rfl rfl ?_
  refine x_bipush (v := 44) d_MD_member_302 (by decide) ?_
  obtain ⟨r304, e304, h⟩ := x_bd h
  refine x_cVi (M2 := M_MD_isSign) (As := [.int 44]) (st := [.ref 387]) d_MD_member_304 w_1363 k_MD_isSign (c_MD_isSign e304) rfl sh_MD hp_MD rfl ⟨Nat.le_of_ble_eq_true rfl, Nat.le_of_ble_eq_true rfl⟩ (Nat.le_of_ble_eq_true rfl) (Nat.le_of_ble_eq_true rfl) rfl ?_
  refine x_if_ne (tgt := 319) d_MD_member_307 (by decide) (fun c_ => ?_) (fun c_ => ?_)
  · replace h := x_ie h c_
    exact b_MD_member_319 hK56 h
  · replace h := x_it h c_
    refine x_aload_n d_MD_member_310 rfl rfl ?_
    refine x_bipush (v := 59) d_MD_member_311 (by decide) ?_
    obtain ⟨r313, e313, h⟩ := x_bd h
    refine x_cVi (M2 := M_MD_isSign) (As := [.int 59]) (st := [.ref 387]) d_MD_member_313 w_1363 k_MD_isSign (c_MD_isSign e313) rfl sh_MD hp_MD rfl ⟨Nat.le_of_ble_eq_true rfl, Nat.le_of_ble_eq_true rfl⟩ (Nat.le_of_ble_eq_true rfl) (Nat.le_of_ble_eq_true rfl) rfl ?_
    refine x_if_eq (tgt := 323) d_MD_member_316 (by decide) (fun c_ => ?_) (fun c_ => ?_)
    · replace h := x_it h c_
      refine x_iconst (v := 0) d_MD_member_323 (by decide) ?_
      exact b_MD_member_324 hK56 h
    · replace h := x_ie h c_
      exact b_MD_member_319 hK56 h
def B_MD_member_291  (K56 : Int32 → Int32 → Int32 → x_m → Option (x_m)) (l1 : Int32) (l2 : Int32) (s0 : Int32) (m : x_m) : Option (x_m) := B_MD_member_293 K56 l1 l2 m
theorem b_MD_member_291 {G : x_G} {ex : Bool} {r : x_m}  {K56 : Int32 → Int32 → Int32 → x_m → Option (x_m)} (hK56 : ∀ (l1 : Int32) (l2 : Int32) (l3 : Int32) (m : x_m), K56 l1 l2 l3 m = some r → x_W G M_MD_member (x_rd 7) (x_Q G (x_rd 7) ex (x_pv r)) ex x_np (x_hp m) 0 0 [(0, .ref 387), (1, .int l1), (2, .int l2), (3, .int l3)] [] 56) {l1 : Int32} {l2 : Int32} {s0 : Int32} {m : x_m} (h : B_MD_member_291 K56 l1 l2 s0 m = some r) : x_W G M_MD_member (x_rd 7) (x_Q G (x_rd 7) ex (x_pv r)) ex x_np (x_hp m) 0 0 [(0, .ref 387), (1, .int l1), (2, .int l2)] [.int s0] 291 := by
  unfold B_MD_member_291 at h
  refine x_istore (lv2 := [(0, .ref 387), (1, .int l1), (2, .int l2), (4, .int s0)]) d_MD_member_291 (by decide) rfl ?_
  refine x_sbk [0, 1, 2] (lv2 := [(0, .ref 387), (1, .int l1), (2, .int l2)]) rfl ?_; exact b_MD_member_293 hK56 h
def B_MD_member_290  (K56 : Int32 → Int32 → Int32 → x_m → Option (x_m)) (l1 : Int32) (l2 : Int32) (m : x_m) : Option (x_m) := B_MD_member_291 K56 l1 l2 0 m
theorem b_MD_member_290 {G : x_G} {ex : Bool} {r : x_m}  {K56 : Int32 → Int32 → Int32 → x_m → Option (x_m)} (hK56 : ∀ (l1 : Int32) (l2 : Int32) (l3 : Int32) (m : x_m), K56 l1 l2 l3 m = some r → x_W G M_MD_member (x_rd 7) (x_Q G (x_rd 7) ex (x_pv r)) ex x_np (x_hp m) 0 0 [(0, .ref 387), (1, .int l1), (2, .int l2), (3, .int l3)] [] 56) {l1 : Int32} {l2 : Int32} {m : x_m} (h : B_MD_member_290 K56 l1 l2 m = some r) : x_W G M_MD_member (x_rd 7) (x_Q G (x_rd 7) ex (x_pv r)) ex x_np (x_hp m) 0 0 [(0, .ref 387), (1, .int l1), (2, .int l2)] [] 290 := by
  unfold B_MD_member_290 at h
  refine x_iconst (v := 0) d_MD_member_290 (by decide) ?_
  exact b_MD_member_291 hK56 h
def B_MD_member_259  (K56 : Int32 → Int32 → Int32 → x_m → Option (x_m)) (l1 : Int32) (l2 : Int32) (l5 : Int32) (s0 : Int32) (m : x_m) : Option (x_m) := ((F_MD_want s0 7 l5 m).bind fun r263 => (if r263.1 = 0 then B_MD_member_290 K56 l1 l2 r263.2 else ((F_MD_goes l1 l2 r263.2).bind fun r273 => ((F_MD_want r273.1 9 l5 r273.2).bind fun r280 => (if r280.1 = 0 then B_MD_member_290 K56 l1 l2 r280.2 else B_MD_member_291 K56 l1 l2 1 r280.2)))))
theorem b_MD_member_259 {G : x_G} {ex : Bool} {r : x_m}  {K56 : Int32 → Int32 → Int32 → x_m → Option (x_m)} (hK56 : ∀ (l1 : Int32) (l2 : Int32) (l3 : Int32) (m : x_m), K56 l1 l2 l3 m = some r → x_W G M_MD_member (x_rd 7) (x_Q G (x_rd 7) ex (x_pv r)) ex x_np (x_hp m) 0 0 [(0, .ref 387), (1, .int l1), (2, .int l2), (3, .int l3)] [] 56) {l1 : Int32} {l2 : Int32} {l5 : Int32} {s0 : Int32} {m : x_m} (h : B_MD_member_259 K56 l1 l2 l5 s0 m = some r) : x_W G M_MD_member (x_rd 7) (x_Q G (x_rd 7) ex (x_pv r)) ex x_np (x_hp m) 0 0 [(0, .ref 387), (1, .int l1), (2, .int l2), (5, .int l5)] [.int s0, .ref 387] 259 := by
  unfold B_MD_member_259 at h
  refine x_bipush (v := 7) d_MD_member_259 (by decide) ?_
  refine x_iload d_MD_member_261 rfl ?_
  obtain ⟨r263, e263, h⟩ := x_bd h
  refine x_cVi (M2 := M_MD_want) (As := [.int s0, .int 7, .int l5]) (st := []) d_MD_member_263 w_1315 k_MD_want (c_MD_want e263) rfl sh_MD hp_MD rfl ⟨Nat.le_of_ble_eq_true rfl, Nat.le_of_ble_eq_true rfl⟩ (Nat.le_of_ble_eq_true rfl) (Nat.le_of_ble_eq_true rfl) rfl ?_
  refine x_if_eq (tgt := 290) d_MD_member_266 (by decide) (fun c_ => ?_) (fun c_ => ?_)
  · replace h := x_it h c_
    refine x_sbk [0, 1, 2] (lv2 := [(0, .ref 387), (1, .int l1), (2, .int l2)]) rfl ?_; exact b_MD_member_290 hK56 h
  · replace h := x_ie h c_
    refine x_aload_n d_MD_member_269 rfl rfl ?_
    refine x_aload_n d_MD_member_270 rfl rfl ?_
    refine x_iload_n d_MD_member_271 rfl rfl ?_
    refine x_iload_n d_MD_member_272 rfl rfl ?_
    obtain ⟨r273, e273, h⟩ := x_bd h
    refine x_cVi (M2 := M_MD_goes) (As := [.int l1, .int l2]) (st := [.ref 387]) d_MD_member_273 w_1375 k_MD_goes (c_MD_goes e273) rfl sh_MD hp_MD rfl ⟨Nat.le_of_ble_eq_true rfl, Nat.le_of_ble_eq_true rfl⟩ (Nat.le_of_ble_eq_true rfl) (Nat.le_of_ble_eq_true rfl) rfl ?_
    refine x_bipush (v := 9) d_MD_member_276 (by decide) ?_
    refine x_iload d_MD_member_278 rfl ?_
    obtain ⟨r280, e280, h⟩ := x_bd h
    refine x_cVi (M2 := M_MD_want) (As := [.int r273.1, .int 9, .int l5]) (st := []) d_MD_member_280 w_1315 k_MD_want (c_MD_want e280) rfl sh_MD hp_MD rfl ⟨Nat.le_of_ble_eq_true rfl, Nat.le_of_ble_eq_true rfl⟩ (Nat.le_of_ble_eq_true rfl) (Nat.le_of_ble_eq_true rfl) rfl ?_
    refine x_if_eq (tgt := 290) d_MD_member_283 (by decide) (fun c_ => ?_) (fun c_ => ?_)
    · replace h := x_it h c_
      refine x_sbk [0, 1, 2] (lv2 := [(0, .ref 387), (1, .int l1), (2, .int l2)]) rfl ?_; exact b_MD_member_290 hK56 h
    · replace h := x_ie h c_
      refine x_iconst (v := 1) d_MD_member_286 (by decide) ?_
      refine x_goto (tgt := 291) d_MD_member_287 (by decide) ?_
      refine x_sbk [0, 1, 2] (lv2 := [(0, .ref 387), (1, .int l1), (2, .int l2)]) rfl ?_; exact b_MD_member_291 hK56 h
def B_MD_member_230  (K56 : Int32 → Int32 → Int32 → x_m → Option (x_m)) (K114 : Int32 → Int32 → Int32 → Int32 → Int32 → x_m → Option (x_m)) (l1 : Int32) (l2 : Int32) (l5 : Int32) (l6 : Int32) (s0 : Int32) (m : x_m) : Option (x_m) := K114 l1 l2 l5 l6 s0 m
theorem b_MD_member_230 {G : x_G} {ex : Bool} {r : x_m}  {K56 : Int32 → Int32 → Int32 → x_m → Option (x_m)} (hK56 : ∀ (l1 : Int32) (l2 : Int32) (l3 : Int32) (m : x_m), K56 l1 l2 l3 m = some r → x_W G M_MD_member (x_rd 7) (x_Q G (x_rd 7) ex (x_pv r)) ex x_np (x_hp m) 0 0 [(0, .ref 387), (1, .int l1), (2, .int l2), (3, .int l3)] [] 56) {K114 : Int32 → Int32 → Int32 → Int32 → Int32 → x_m → Option (x_m)} (hK114 : ∀ (l1 : Int32) (l2 : Int32) (l5 : Int32) (l6 : Int32) (l7 : Int32) (m : x_m), K114 l1 l2 l5 l6 l7 m = some r → x_W G M_MD_member (x_rd 7) (x_Q G (x_rd 7) ex (x_pv r)) ex x_np (x_hp m) 0 0 [(0, .ref 387), (1, .int l1), (2, .int l2), (5, .int l5), (6, .int l6), (7, .int l7)] [] 114) {l1 : Int32} {l2 : Int32} {l5 : Int32} {l6 : Int32} {s0 : Int32} {m : x_m} (h : B_MD_member_230 K56 K114 l1 l2 l5 l6 s0 m = some r) : x_W G M_MD_member (x_rd 7) (x_Q G (x_rd 7) ex (x_pv r)) ex x_np (x_hp m) 0 0 [(0, .ref 387), (1, .int l1), (2, .int l2), (5, .int l5), (6, .int l6)] [.int s0] 230 := by
  unfold B_MD_member_230 at h
  refine x_istore (lv2 := [(0, .ref 387), (1, .int l1), (2, .int l2), (5, .int l5), (6, .int l6), (7, .int s0)]) d_MD_member_230 (by decide) rfl ?_
  refine x_goto (tgt := 114) d_MD_member_232 (by decide) ?_
  exact hK114 _ _ _ _ _ _ h
def B_MD_member_229  (K56 : Int32 → Int32 → Int32 → x_m → Option (x_m)) (K114 : Int32 → Int32 → Int32 → Int32 → Int32 → x_m → Option (x_m)) (l1 : Int32) (l2 : Int32) (l5 : Int32) (l6 : Int32) (m : x_m) : Option (x_m) := B_MD_member_230 K56 K114 l1 l2 l5 l6 0 m
theorem b_MD_member_229 {G : x_G} {ex : Bool} {r : x_m}  {K56 : Int32 → Int32 → Int32 → x_m → Option (x_m)} (hK56 : ∀ (l1 : Int32) (l2 : Int32) (l3 : Int32) (m : x_m), K56 l1 l2 l3 m = some r → x_W G M_MD_member (x_rd 7) (x_Q G (x_rd 7) ex (x_pv r)) ex x_np (x_hp m) 0 0 [(0, .ref 387), (1, .int l1), (2, .int l2), (3, .int l3)] [] 56) {K114 : Int32 → Int32 → Int32 → Int32 → Int32 → x_m → Option (x_m)} (hK114 : ∀ (l1 : Int32) (l2 : Int32) (l5 : Int32) (l6 : Int32) (l7 : Int32) (m : x_m), K114 l1 l2 l5 l6 l7 m = some r → x_W G M_MD_member (x_rd 7) (x_Q G (x_rd 7) ex (x_pv r)) ex x_np (x_hp m) 0 0 [(0, .ref 387), (1, .int l1), (2, .int l2), (5, .int l5), (6, .int l6), (7, .int l7)] [] 114) {l1 : Int32} {l2 : Int32} {l5 : Int32} {l6 : Int32} {m : x_m} (h : B_MD_member_229 K56 K114 l1 l2 l5 l6 m = some r) : x_W G M_MD_member (x_rd 7) (x_Q G (x_rd 7) ex (x_pv r)) ex x_np (x_hp m) 0 0 [(0, .ref 387), (1, .int l1), (2, .int l2), (5, .int l5), (6, .int l6)] [] 229 := by
  unfold B_MD_member_229 at h
  refine x_iconst (v := 0) d_MD_member_229 (by decide) ?_
  exact b_MD_member_230 hK56 hK114 h
def B_MD_member_210  (K56 : Int32 → Int32 → Int32 → x_m → Option (x_m)) (K114 : Int32 → Int32 → Int32 → Int32 → Int32 → x_m → Option (x_m)) (l1 : Int32) (l2 : Int32) (l5 : Int32) (l6 : Int32) (s0 : Int32) (m : x_m) : Option (x_m) := ((F_MD_must s0 m).bind fun r210 => (if r210.1 = 0 then B_MD_member_229 K56 K114 l1 l2 l5 l6 r210.2 else ((F_MD_isSign 44 r210.2).bind fun r219 => (if r219.1 = 0 then B_MD_member_229 K56 K114 l1 l2 l5 l6 r219.2 else B_MD_member_230 K56 K114 l1 l2 l5 l6 1 r219.2))))
theorem b_MD_member_210 {G : x_G} {ex : Bool} {r : x_m}  {K56 : Int32 → Int32 → Int32 → x_m → Option (x_m)} (hK56 : ∀ (l1 : Int32) (l2 : Int32) (l3 : Int32) (m : x_m), K56 l1 l2 l3 m = some r → x_W G M_MD_member (x_rd 7) (x_Q G (x_rd 7) ex (x_pv r)) ex x_np (x_hp m) 0 0 [(0, .ref 387), (1, .int l1), (2, .int l2), (3, .int l3)] [] 56) {K114 : Int32 → Int32 → Int32 → Int32 → Int32 → x_m → Option (x_m)} (hK114 : ∀ (l1 : Int32) (l2 : Int32) (l5 : Int32) (l6 : Int32) (l7 : Int32) (m : x_m), K114 l1 l2 l5 l6 l7 m = some r → x_W G M_MD_member (x_rd 7) (x_Q G (x_rd 7) ex (x_pv r)) ex x_np (x_hp m) 0 0 [(0, .ref 387), (1, .int l1), (2, .int l2), (5, .int l5), (6, .int l6), (7, .int l7)] [] 114) {l1 : Int32} {l2 : Int32} {l5 : Int32} {l6 : Int32} {s0 : Int32} {m : x_m} (h : B_MD_member_210 K56 K114 l1 l2 l5 l6 s0 m = some r) : x_W G M_MD_member (x_rd 7) (x_Q G (x_rd 7) ex (x_pv r)) ex x_np (x_hp m) 0 0 [(0, .ref 387), (1, .int l1), (2, .int l2), (5, .int l5), (6, .int l6)] [.int s0, .ref 387] 210 := by
  unfold B_MD_member_210 at h
  obtain ⟨r210, e210, h⟩ := x_bd h
  refine x_cVi (M2 := M_MD_must) (As := [.int s0]) (st := []) d_MD_member_210 w_1331 k_MD_must (c_MD_must e210) rfl sh_MD hp_MD rfl ⟨Nat.le_of_ble_eq_true rfl, Nat.le_of_ble_eq_true rfl⟩ (Nat.le_of_ble_eq_true rfl) (Nat.le_of_ble_eq_true rfl) rfl ?_
  refine x_if_eq (tgt := 229) d_MD_member_213 (by decide) (fun c_ => ?_) (fun c_ => ?_)
  · replace h := x_it h c_
    exact b_MD_member_229 hK56 hK114 h
  · replace h := x_ie h c_
    refine x_aload_n d_MD_member_216 rfl rfl ?_
    refine x_bipush (v := 44) d_MD_member_217 (by decide) ?_
    obtain ⟨r219, e219, h⟩ := x_bd h
    refine x_cVi (M2 := M_MD_isSign) (As := [.int 44]) (st := []) d_MD_member_219 w_1363 k_MD_isSign (c_MD_isSign e219) rfl sh_MD hp_MD rfl ⟨Nat.le_of_ble_eq_true rfl, Nat.le_of_ble_eq_true rfl⟩ (Nat.le_of_ble_eq_true rfl) (Nat.le_of_ble_eq_true rfl) rfl ?_
    refine x_if_eq (tgt := 229) d_MD_member_222 (by decide) (fun c_ => ?_) (fun c_ => ?_)
    · replace h := x_it h c_
      exact b_MD_member_229 hK56 hK114 h
    · replace h := x_ie h c_
      refine x_iconst (v := 1) d_MD_member_225 (by decide) ?_
      refine x_goto (tgt := 230) d_MD_member_226 (by decide) ?_
      exact b_MD_member_230 hK56 hK114 h
def B_MD_member_205  (K56 : Int32 → Int32 → Int32 → x_m → Option (x_m)) (K114 : Int32 → Int32 → Int32 → Int32 → Int32 → x_m → Option (x_m)) (l1 : Int32) (l2 : Int32) (l5 : Int32) (l6 : Int32) (m : x_m) : Option (x_m) := B_MD_member_210 K56 K114 l1 l2 l5 l6 1 m
theorem b_MD_member_205 {G : x_G} {ex : Bool} {r : x_m}  {K56 : Int32 → Int32 → Int32 → x_m → Option (x_m)} (hK56 : ∀ (l1 : Int32) (l2 : Int32) (l3 : Int32) (m : x_m), K56 l1 l2 l3 m = some r → x_W G M_MD_member (x_rd 7) (x_Q G (x_rd 7) ex (x_pv r)) ex x_np (x_hp m) 0 0 [(0, .ref 387), (1, .int l1), (2, .int l2), (3, .int l3)] [] 56) {K114 : Int32 → Int32 → Int32 → Int32 → Int32 → x_m → Option (x_m)} (hK114 : ∀ (l1 : Int32) (l2 : Int32) (l5 : Int32) (l6 : Int32) (l7 : Int32) (m : x_m), K114 l1 l2 l5 l6 l7 m = some r → x_W G M_MD_member (x_rd 7) (x_Q G (x_rd 7) ex (x_pv r)) ex x_np (x_hp m) 0 0 [(0, .ref 387), (1, .int l1), (2, .int l2), (5, .int l5), (6, .int l6), (7, .int l7)] [] 114) {l1 : Int32} {l2 : Int32} {l5 : Int32} {l6 : Int32} {m : x_m} (h : B_MD_member_205 K56 K114 l1 l2 l5 l6 m = some r) : x_W G M_MD_member (x_rd 7) (x_Q G (x_rd 7) ex (x_pv r)) ex x_np (x_hp m) 0 0 [(0, .ref 387), (1, .int l1), (2, .int l2), (5, .int l5), (6, .int l6)] [.ref 387] 205 := by
  unfold B_MD_member_205 at h
  refine x_iconst (v := 1) d_MD_member_205 (by decide) ?_
  refine x_goto (tgt := 210) d_MD_member_206 (by decide) ?_
  exact b_MD_member_210 hK56 hK114 h
def B_MD_member_179  (K56 : Int32 → Int32 → Int32 → x_m → Option (x_m)) (K114 : Int32 → Int32 → Int32 → Int32 → Int32 → x_m → Option (x_m)) (l1 : Int32) (l2 : Int32) (l5 : Int32) (l6 : Int32) (m : x_m) : Option (x_m) := ((F_MD_read m).bind fun r183 => ((F_MD_isSign 44 r183).bind fun r190 => (if r190.1 = 0 then ((F_MD_isSign 41 r190.2).bind fun r199 => (if r199.1 = 0 then B_MD_member_210 K56 K114 l1 l2 l5 (l6 + 1) 0 r199.2 else B_MD_member_205 K56 K114 l1 l2 l5 (l6 + 1) r199.2)) else B_MD_member_205 K56 K114 l1 l2 l5 (l6 + 1) r190.2)))
theorem b_MD_member_179 {G : x_G} {ex : Bool} {r : x_m}  {K56 : Int32 → Int32 → Int32 → x_m → Option (x_m)} (hK56 : ∀ (l1 : Int32) (l2 : Int32) (l3 : Int32) (m : x_m), K56 l1 l2 l3 m = some r → x_W G M_MD_member (x_rd 7) (x_Q G (x_rd 7) ex (x_pv r)) ex x_np (x_hp m) 0 0 [(0, .ref 387), (1, .int l1), (2, .int l2), (3, .int l3)] [] 56) {K114 : Int32 → Int32 → Int32 → Int32 → Int32 → x_m → Option (x_m)} (hK114 : ∀ (l1 : Int32) (l2 : Int32) (l5 : Int32) (l6 : Int32) (l7 : Int32) (m : x_m), K114 l1 l2 l5 l6 l7 m = some r → x_W G M_MD_member (x_rd 7) (x_Q G (x_rd 7) ex (x_pv r)) ex x_np (x_hp m) 0 0 [(0, .ref 387), (1, .int l1), (2, .int l2), (5, .int l5), (6, .int l6), (7, .int l7)] [] 114) {l1 : Int32} {l2 : Int32} {l5 : Int32} {l6 : Int32} {m : x_m} (h : B_MD_member_179 K56 K114 l1 l2 l5 l6 m = some r) : x_W G M_MD_member (x_rd 7) (x_Q G (x_rd 7) ex (x_pv r)) ex x_np (x_hp m) 0 0 [(0, .ref 387), (1, .int l1), (2, .int l2), (5, .int l5), (6, .int l6)] [] 179 := by
  unfold B_MD_member_179 at h
  refine x_iinc (v := l6 + 1) (lv2 := [(0, .ref 387), (1, .int l1), (2, .int l2), (5, .int l5), (6, .int (l6 + 1))]) d_MD_member_179 rfl rfl (by decide) rfl ?_
  refine x_aload_n d_MD_member_182 rfl rfl ?_
  obtain ⟨r183, e183, h⟩ := x_bd h
  refine x_cVv (M2 := M_MD_read) (As := []) (st := []) d_MD_member_183 w_1240 k_MD_read (c_MD_read e183) rfl sh_MD hp_MD rfl ⟨Nat.le_of_ble_eq_true rfl, Nat.le_of_ble_eq_true rfl⟩ (Nat.le_of_ble_eq_true rfl) (Nat.le_of_ble_eq_true rfl) rfl ?_
  refine x_aload_n d_MD_member_186 rfl rfl ?_
  refine x_aload_n d_MD_member_187 rfl rfl ?_
  refine x_bipush (v := 44) d_MD_member_188 (by decide) ?_
  obtain ⟨r190, e190, h⟩ := x_bd h
  refine x_cVi (M2 := M_MD_isSign) (As := [.int 44]) (st := [.ref 387]) d_MD_member_190 w_1363 k_MD_isSign (c_MD_isSign e190) rfl sh_MD hp_MD rfl ⟨Nat.le_of_ble_eq_true rfl, Nat.le_of_ble_eq_true rfl⟩ (Nat.le_of_ble_eq_true rfl) (Nat.le_of_ble_eq_true rfl) rfl ?_
  refine x_if_ne (tgt := 205) d_MD_member_193 (by decide) (fun c_ => ?_) (fun c_ => ?_)
  · replace h := x_ie h c_
    exact b_MD_member_205 hK56 hK114 h
  · replace h := x_it h c_
    refine x_aload_n d_MD_member_196 rfl rfl ?_
    refine x_bipush (v := 41) d_MD_member_197 (by decide) ?_
    obtain ⟨r199, e199, h⟩ := x_bd h
    refine x_cVi (M2 := M_MD_isSign) (As := [.int 41]) (st := [.ref 387]) d_MD_member_199 w_1363 k_MD_isSign (c_MD_isSign e199) rfl sh_MD hp_MD rfl ⟨Nat.le_of_ble_eq_true rfl, Nat.le_of_ble_eq_true rfl⟩ (Nat.le_of_ble_eq_true rfl) (Nat.le_of_ble_eq_true rfl) rfl ?_
    refine x_if_eq (tgt := 209) d_MD_member_202 (by decide) (fun c_ => ?_) (fun c_ => ?_)
    · replace h := x_it h c_
      refine x_iconst (v := 0) d_MD_member_209 (by decide) ?_
      exact b_MD_member_210 hK56 hK114 h
    · replace h := x_ie h c_
      exact b_MD_member_205 hK56 hK114 h
def B_MD_member_137  (K56 : Int32 → Int32 → Int32 → x_m → Option (x_m)) (K114 : Int32 → Int32 → Int32 → Int32 → Int32 → x_m → Option (x_m)) (l1 : Int32) (l2 : Int32) (l5 : Int32) (l6 : Int32) (s0 : Int32) (m : x_m) : Option (x_m) := ((F_MD_must s0 m).bind fun r137 => (if r137.1 = 0 then B_MD_member_179 K56 K114 l1 l2 l5 l6 r137.2 else (if x_ix l1 8 = true then (if (r137.2.2.1 389 l1.toNatClampNeg) ≤ l6 then B_MD_member_179 K56 K114 l1 l2 l5 l6 r137.2 else (if x_ix (((4000 * l1) + (4 * l2)) + l6) 32000 = true then B_MD_member_179 K56 K114 l1 l2 l5 l6 (x_wA r137.2 391 (((4000 * l1) + (4 * l2)) + l6).toNatClampNeg (r137.2.1 387 11)) else none)) else none)))
theorem b_MD_member_137 {G : x_G} {ex : Bool} {r : x_m}  {K56 : Int32 → Int32 → Int32 → x_m → Option (x_m)} (hK56 : ∀ (l1 : Int32) (l2 : Int32) (l3 : Int32) (m : x_m), K56 l1 l2 l3 m = some r → x_W G M_MD_member (x_rd 7) (x_Q G (x_rd 7) ex (x_pv r)) ex x_np (x_hp m) 0 0 [(0, .ref 387), (1, .int l1), (2, .int l2), (3, .int l3)] [] 56) {K114 : Int32 → Int32 → Int32 → Int32 → Int32 → x_m → Option (x_m)} (hK114 : ∀ (l1 : Int32) (l2 : Int32) (l5 : Int32) (l6 : Int32) (l7 : Int32) (m : x_m), K114 l1 l2 l5 l6 l7 m = some r → x_W G M_MD_member (x_rd 7) (x_Q G (x_rd 7) ex (x_pv r)) ex x_np (x_hp m) 0 0 [(0, .ref 387), (1, .int l1), (2, .int l2), (5, .int l5), (6, .int l6), (7, .int l7)] [] 114) {l1 : Int32} {l2 : Int32} {l5 : Int32} {l6 : Int32} {s0 : Int32} {m : x_m} (h : B_MD_member_137 K56 K114 l1 l2 l5 l6 s0 m = some r) : x_W G M_MD_member (x_rd 7) (x_Q G (x_rd 7) ex (x_pv r)) ex x_np (x_hp m) 0 0 [(0, .ref 387), (1, .int l1), (2, .int l2), (5, .int l5), (6, .int l6)] [.int s0, .ref 387] 137 := by
  unfold B_MD_member_137 at h
  obtain ⟨r137, e137, h⟩ := x_bd h
  refine x_cVi (M2 := M_MD_must) (As := [.int s0]) (st := []) d_MD_member_137 w_1331 k_MD_must (c_MD_must e137) rfl sh_MD hp_MD rfl ⟨Nat.le_of_ble_eq_true rfl, Nat.le_of_ble_eq_true rfl⟩ (Nat.le_of_ble_eq_true rfl) (Nat.le_of_ble_eq_true rfl) rfl ?_
  refine x_istore (lv2 := [(0, .ref 387), (1, .int l1), (2, .int l2), (4, .int r137.1), (5, .int l5), (6, .int l6)]) d_MD_member_140 (by decide) rfl ?_
  refine x_iload d_MD_member_142 rfl ?_
  refine x_if_eq (tgt := 179) d_MD_member_144 (by decide) (fun c_ => ?_) (fun c_ => ?_)
  · replace h := x_it h c_
    refine x_sbk [0, 1, 2, 4, 5] (lv2 := [(0, .ref 387), (1, .int l1), (2, .int l2), (5, .int l5), (6, .int l6)]) rfl ?_; exact b_MD_member_179 hK56 hK114 h
  · replace h := x_ie h c_
    refine x_iload d_MD_member_147 rfl ?_
    refine x_aload_n d_MD_member_149 rfl rfl ?_
    refine x_gC d_MD_member_150 (f_MD_24 rfl) sh_MD hp_MD rfl ?_
    refine x_iload_n d_MD_member_153 rfl rfl ?_
    obtain ⟨g_154, h⟩ := x_gd h
    refine x_lI d_MD_member_154 rfl sa_MD_levels ha_MD_levels g_154 ?_
    refine x_icmp_ge (tgt := 179) d_MD_member_155 (by decide) (fun c_ => ?_) (fun c_ => ?_)
    · replace h := x_it h c_
      refine x_sbk [0, 1, 2, 4, 5] (lv2 := [(0, .ref 387), (1, .int l1), (2, .int l2), (5, .int l5), (6, .int l6)]) rfl ?_; exact b_MD_member_179 hK56 hK114 h
    · replace h := x_ie h c_
      refine x_aload_n d_MD_member_158 rfl rfl ?_
      refine x_gC d_MD_member_159 (f_MD_31 rfl) sh_MD hp_MD rfl ?_
      refine x_sipush (v := 4000) d_MD_member_162 (by decide) ?_
      refine x_iload_n d_MD_member_165 rfl rfl ?_
      refine x_imul d_MD_member_166 ?_
      refine x_iconst (v := 4) d_MD_member_167 (by decide) ?_
      refine x_iload_n d_MD_member_168 rfl rfl ?_
      refine x_imul d_MD_member_169 ?_
      refine x_iadd d_MD_member_170 ?_
      refine x_iload d_MD_member_171 rfl ?_
      refine x_iadd d_MD_member_173 ?_
      refine x_aload_n d_MD_member_174 rfl rfl ?_
      refine x_gI d_MD_member_175 (f_MD_121 rfl) sh_MD hp_MD rfl ?_
      obtain ⟨g_178, h⟩ := x_gd h
      refine x_sI d_MD_member_178 rfl sa_MD_values ha_MD_values g_178 ?_
      refine x_sbk [0, 1, 2, 4, 5] (lv2 := [(0, .ref 387), (1, .int l1), (2, .int l2), (5, .int l5), (6, .int l6)]) rfl ?_; exact b_MD_member_179 hK56 hK114 h
def B_MD_member_114  (K56 : Int32 → Int32 → Int32 → x_m → Option (x_m)) : Nat → Int32 → Int32 → Int32 → Int32 → Int32 → x_m → Option (x_m)
  | 0, _, _, _, _, _, _ => none
  | f_ + 1, l1, l2, l5, l6, l7, m => (if l7 = 0 then (if (m.1 387 5) = 0 then (if x_ix l1 8 = true then (if l6 = (m.2.1 389 l1.toNatClampNeg) then B_MD_member_259 K56 l1 l2 l5 1 m else B_MD_member_259 K56 l1 l2 l5 0 m) else none) else B_MD_member_293 K56 l1 l2 m) else ((F_MD_read m).bind fun r120 => (if (r120.1 387 9) = 2 then B_MD_member_137 K56 (B_MD_member_114 K56 f_) l1 l2 l5 l6 1 r120 else B_MD_member_137 K56 (B_MD_member_114 K56 f_) l1 l2 l5 l6 0 r120)))
theorem b_MD_member_114 {G : x_G} {ex : Bool} {r : x_m}  {K56 : Int32 → Int32 → Int32 → x_m → Option (x_m)} (hK56 : ∀ (l1 : Int32) (l2 : Int32) (l3 : Int32) (m : x_m), K56 l1 l2 l3 m = some r → x_W G M_MD_member (x_rd 7) (x_Q G (x_rd 7) ex (x_pv r)) ex x_np (x_hp m) 0 0 [(0, .ref 387), (1, .int l1), (2, .int l2), (3, .int l3)] [] 56) : ∀ (f_ : Nat) (l1 : Int32) (l2 : Int32) (l5 : Int32) (l6 : Int32) (l7 : Int32) (m : x_m), B_MD_member_114 K56 f_ l1 l2 l5 l6 l7 m = some r → x_W G M_MD_member (x_rd 7) (x_Q G (x_rd 7) ex (x_pv r)) ex x_np (x_hp m) 0 0 [(0, .ref 387), (1, .int l1), (2, .int l2), (5, .int l5), (6, .int l6), (7, .int l7)] [] 114 := by
  intro f_
  induction f_ with
  | zero => intro l1 l2 l5 l6 l7 m h; exact nomatch h
  | succ f_ ih =>
    intro l1 l2 l5 l6 l7 m h
    rw [B_MD_member_114] at h
    have hK114 := ih
    refine x_iload d_MD_member_114 rfl ?_
    refine x_if_eq (tgt := 235) d_MD_member_116 (by decide) (fun c_ => ?_) (fun c_ => ?_)
    · replace h := x_it h c_
      refine x_aload_n d_MD_member_235 rfl rfl ?_
      refine x_gI d_MD_member_236 (f_MD_67 rfl) sh_MD hp_MD rfl ?_
      refine x_if_ne (tgt := 293) d_MD_member_239 (by decide) (fun c_ => ?_) (fun c_ => ?_)
      · replace h := x_ie h c_
        refine x_sbk [0, 1, 2] (lv2 := [(0, .ref 387), (1, .int l1), (2, .int l2)]) rfl ?_; exact b_MD_member_293 hK56 h
      · replace h := x_it h c_
        refine x_aload_n d_MD_member_242 rfl rfl ?_
        refine x_iload d_MD_member_243 rfl ?_
        refine x_aload_n d_MD_member_245 rfl rfl ?_
        refine x_gC d_MD_member_246 (f_MD_24 rfl) sh_MD hp_MD rfl ?_
        refine x_iload_n d_MD_member_249 rfl rfl ?_
        obtain ⟨g_250, h⟩ := x_gd h
        refine x_lI d_MD_member_250 rfl sa_MD_levels ha_MD_levels g_250 ?_
        refine x_icmp_ne (tgt := 258) d_MD_member_251 (by decide) (fun c_ => ?_) (fun c_ => ?_)
        · replace h := x_ie h c_
          refine x_iconst (v := 0) d_MD_member_258 (by decide) ?_
          refine x_sbk [0, 1, 2, 3] (lv2 := [(0, .ref 387), (1, .int l1), (2, .int l2), (5, .int l5)]) rfl ?_; exact b_MD_member_259 hK56 h
        · replace h := x_it h c_
          refine x_iconst (v := 1) d_MD_member_254 (by decide) ?_
          refine x_goto (tgt := 259) d_MD_member_255 (by decide) ?_
          refine x_sbk [0, 1, 2, 3] (lv2 := [(0, .ref 387), (1, .int l1), (2, .int l2), (5, .int l5)]) rfl ?_; exact b_MD_member_259 hK56 h
    · replace h := x_ie h c_
      refine x_aload_n d_MD_member_119 rfl rfl ?_
      obtain ⟨r120, e120, h⟩ := x_bd h
      refine x_cVv (M2 := M_MD_read) (As := []) (st := []) d_MD_member_120 w_1240 k_MD_read (c_MD_read e120) rfl sh_MD hp_MD rfl ⟨Nat.le_of_ble_eq_true rfl, Nat.le_of_ble_eq_true rfl⟩ (Nat.le_of_ble_eq_true rfl) (Nat.le_of_ble_eq_true rfl) rfl ?_
      refine x_aload_n d_MD_member_123 rfl rfl ?_
      refine x_aload_n d_MD_member_124 rfl rfl ?_
      refine x_gI d_MD_member_125 (f_MD_86 rfl) sh_MD hp_MD rfl ?_
      refine x_iconst (v := 2) d_MD_member_128 (by decide) ?_
      refine x_icmp_ne (tgt := 136) d_MD_member_129 (by decide) (fun c_ => ?_) (fun c_ => ?_)
      · replace h := x_ie h c_
        refine x_iconst (v := 0) d_MD_member_136 (by decide) ?_
        refine x_sbk [0, 1, 2, 3, 4] (lv2 := [(0, .ref 387), (1, .int l1), (2, .int l2), (5, .int l5), (6, .int l6)]) rfl ?_; exact b_MD_member_137 hK56 hK114 h
      · replace h := x_it h c_
        refine x_iconst (v := 1) d_MD_member_132 (by decide) ?_
        refine x_goto (tgt := 137) d_MD_member_133 (by decide) ?_
        refine x_sbk [0, 1, 2, 3, 4] (lv2 := [(0, .ref 387), (1, .int l1), (2, .int l2), (5, .int l5), (6, .int l6)]) rfl ?_; exact b_MD_member_137 hK56 hK114 h
def B_MD_member_99  (K56 : Int32 → Int32 → Int32 → x_m → Option (x_m)) (l1 : Int32) (l2 : Int32) (s0 : Int32) (m : x_m) : Option (x_m) := B_MD_member_114 K56 x_fu l1 l2 (m.1 387 8) 0 s0 m
theorem b_MD_member_99 {G : x_G} {ex : Bool} {r : x_m}  {K56 : Int32 → Int32 → Int32 → x_m → Option (x_m)} (hK56 : ∀ (l1 : Int32) (l2 : Int32) (l3 : Int32) (m : x_m), K56 l1 l2 l3 m = some r → x_W G M_MD_member (x_rd 7) (x_Q G (x_rd 7) ex (x_pv r)) ex x_np (x_hp m) 0 0 [(0, .ref 387), (1, .int l1), (2, .int l2), (3, .int l3)] [] 56) {l1 : Int32} {l2 : Int32} {s0 : Int32} {m : x_m} (h : B_MD_member_99 K56 l1 l2 s0 m = some r) : x_W G M_MD_member (x_rd 7) (x_Q G (x_rd 7) ex (x_pv r)) ex x_np (x_hp m) 0 0 [(0, .ref 387), (1, .int l1), (2, .int l2)] [.int s0] 99 := by
  unfold B_MD_member_99 at h
  refine x_istore (lv2 := [(0, .ref 387), (1, .int l1), (2, .int l2), (4, .int s0)]) d_MD_member_99 (by decide) rfl ?_
  refine x_aload_n d_MD_member_101 rfl rfl ?_
  refine x_gI d_MD_member_102 (f_MD_77 rfl) sh_MD hp_MD rfl ?_
  refine x_istore (lv2 := [(0, .ref 387), (1, .int l1), (2, .int l2), (4, .int s0), (5, .int (m.1 387 8))]) d_MD_member_105 (by decide) rfl ?_
  refine x_iconst (v := 0) d_MD_member_107 (by decide) ?_
  refine x_istore (lv2 := [(0, .ref 387), (1, .int l1), (2, .int l2), (4, .int s0), (5, .int (m.1 387 8)), (6, .int 0)]) d_MD_member_108 (by decide) rfl ?_
  refine x_iload d_MD_member_110 rfl ?_
  refine x_istore (lv2 := [(0, .ref 387), (1, .int l1), (2, .int l2), (4, .int s0), (5, .int (m.1 387 8)), (6, .int 0), (7, .int s0)]) d_MD_member_112 (by decide) rfl ?_
  refine x_sbk [0, 1, 2, 4, 5, 6] (lv2 := [(0, .ref 387), (1, .int l1), (2, .int l2), (5, .int (m.1 387 8)), (6, .int 0), (7, .int s0)]) rfl ?_; exact b_MD_member_114 hK56 _ _ _ _ _ _ _ h
def B_MD_member_98  (K56 : Int32 → Int32 → Int32 → x_m → Option (x_m)) (l1 : Int32) (l2 : Int32) (m : x_m) : Option (x_m) := B_MD_member_99 K56 l1 l2 0 m
theorem b_MD_member_98 {G : x_G} {ex : Bool} {r : x_m}  {K56 : Int32 → Int32 → Int32 → x_m → Option (x_m)} (hK56 : ∀ (l1 : Int32) (l2 : Int32) (l3 : Int32) (m : x_m), K56 l1 l2 l3 m = some r → x_W G M_MD_member (x_rd 7) (x_Q G (x_rd 7) ex (x_pv r)) ex x_np (x_hp m) 0 0 [(0, .ref 387), (1, .int l1), (2, .int l2), (3, .int l3)] [] 56) {l1 : Int32} {l2 : Int32} {m : x_m} (h : B_MD_member_98 K56 l1 l2 m = some r) : x_W G M_MD_member (x_rd 7) (x_Q G (x_rd 7) ex (x_pv r)) ex x_np (x_hp m) 0 0 [(0, .ref 387), (1, .int l1), (2, .int l2)] [] 98 := by
  unfold B_MD_member_98 at h
  refine x_iconst (v := 0) d_MD_member_98 (by decide) ?_
  exact b_MD_member_99 hK56 h
def B_MD_member_82  (K56 : Int32 → Int32 → Int32 → x_m → Option (x_m)) (l1 : Int32) (l2 : Int32) (s0 : Int32) (m : x_m) : Option (x_m) := ((F_MD_want s0 7 (m.1 387 8) m).bind fun r88 => (if r88.1 = 0 then B_MD_member_98 K56 l1 l2 r88.2 else B_MD_member_99 K56 l1 l2 1 r88.2))
theorem b_MD_member_82 {G : x_G} {ex : Bool} {r : x_m}  {K56 : Int32 → Int32 → Int32 → x_m → Option (x_m)} (hK56 : ∀ (l1 : Int32) (l2 : Int32) (l3 : Int32) (m : x_m), K56 l1 l2 l3 m = some r → x_W G M_MD_member (x_rd 7) (x_Q G (x_rd 7) ex (x_pv r)) ex x_np (x_hp m) 0 0 [(0, .ref 387), (1, .int l1), (2, .int l2), (3, .int l3)] [] 56) {l1 : Int32} {l2 : Int32} {s0 : Int32} {m : x_m} (h : B_MD_member_82 K56 l1 l2 s0 m = some r) : x_W G M_MD_member (x_rd 7) (x_Q G (x_rd 7) ex (x_pv r)) ex x_np (x_hp m) 0 0 [(0, .ref 387), (1, .int l1), (2, .int l2)] [.int s0, .ref 387] 82 := by
  unfold B_MD_member_82 at h
  refine x_bipush (v := 7) d_MD_member_82 (by decide) ?_
  refine x_aload_n d_MD_member_84 rfl rfl ?_
  refine x_gI d_MD_member_85 (f_MD_77 rfl) sh_MD hp_MD rfl ?_
  obtain ⟨r88, e88, h⟩ := x_bd h
  refine x_cVi (M2 := M_MD_want) (As := [.int s0, .int 7, .int (m.1 387 8)]) (st := []) d_MD_member_88 w_1315 k_MD_want (c_MD_want e88) rfl sh_MD hp_MD rfl ⟨Nat.le_of_ble_eq_true rfl, Nat.le_of_ble_eq_true rfl⟩ (Nat.le_of_ble_eq_true rfl) (Nat.le_of_ble_eq_true rfl) rfl ?_
  refine x_if_eq (tgt := 98) d_MD_member_91 (by decide) (fun c_ => ?_) (fun c_ => ?_)
  · replace h := x_it h c_
    exact b_MD_member_98 hK56 h
  · replace h := x_ie h c_
    refine x_iconst (v := 1) d_MD_member_94 (by decide) ?_
    refine x_goto (tgt := 99) d_MD_member_95 (by decide) ?_
    exact b_MD_member_99 hK56 h
def B_MD_member_56   : Nat → Int32 → Int32 → Int32 → x_m → Option (x_m)
  | 0, _, _, _, _ => none
  | f_ + 1, l1, l2, l3, m => (if l3 = 0 then (if (m.1 387 5) = 0 then B_MD_member_370 l2 l1 m else (if x_ix l1 8 = true then B_MD_member_370 (m.2.1 390 l1.toNatClampNeg) l1 m else none)) else ((F_MD_needSign 40 m).bind fun r63 => (if r63.1 = 0 then B_MD_member_98 (B_MD_member_56 f_) l1 l2 r63.2 else (if 1000 ≤ l2 then B_MD_member_82 (B_MD_member_56 f_) l1 l2 0 r63.2 else B_MD_member_82 (B_MD_member_56 f_) l1 l2 1 r63.2))))
theorem b_MD_member_56 {G : x_G} {ex : Bool} {r : x_m}   : ∀ (f_ : Nat) (l1 : Int32) (l2 : Int32) (l3 : Int32) (m : x_m), B_MD_member_56 f_ l1 l2 l3 m = some r → x_W G M_MD_member (x_rd 7) (x_Q G (x_rd 7) ex (x_pv r)) ex x_np (x_hp m) 0 0 [(0, .ref 387), (1, .int l1), (2, .int l2), (3, .int l3)] [] 56 := by
  intro f_
  induction f_ with
  | zero => intro l1 l2 l3 m h; exact nomatch h
  | succ f_ ih =>
    intro l1 l2 l3 m h
    rw [B_MD_member_56] at h
    have hK56 := ih
    refine x_iload_n d_MD_member_56 rfl rfl ?_
    refine x_if_eq (tgt := 348) d_MD_member_57 (by decide) (fun c_ => ?_) (fun c_ => ?_)
    · replace h := x_it h c_
      refine x_aload_n d_MD_member_348 rfl rfl ?_
      refine x_gC d_MD_member_349 (f_MD_28 rfl) sh_MD hp_MD rfl ?_
      refine x_iload_n d_MD_member_352 rfl rfl ?_
      refine x_aload_n d_MD_member_353 rfl rfl ?_
      refine x_gI d_MD_member_354 (f_MD_67 rfl) sh_MD hp_MD rfl ?_
      refine x_if_ne (tgt := 364) d_MD_member_357 (by decide) (fun c_ => ?_) (fun c_ => ?_)
      · replace h := x_ie h c_
        refine x_aload_n d_MD_member_364 rfl rfl ?_
        refine x_gC d_MD_member_365 (f_MD_28 rfl) sh_MD hp_MD rfl ?_
        refine x_iload_n d_MD_member_368 rfl rfl ?_
        obtain ⟨g_369, h⟩ := x_gd h
        refine x_lI d_MD_member_369 rfl sa_MD_members ha_MD_members g_369 ?_
        refine x_sbk [] (lv2 := []) rfl ?_; exact b_MD_member_370 h
      · replace h := x_it h c_
        refine x_iload_n d_MD_member_360 rfl rfl ?_
        refine x_goto (tgt := 370) d_MD_member_361 (by decide) ?_
        refine x_sbk [] (lv2 := []) rfl ?_; exact b_MD_member_370 h
    · replace h := x_ie h c_
      refine x_aload_n d_MD_member_60 rfl rfl ?_
      refine x_bipush (v := 40) d_MD_member_61 (by decide) ?_
      obtain ⟨r63, e63, h⟩ := x_bd h
      refine x_cVi (M2 := M_MD_needSign) (As := [.int 40]) (st := []) d_MD_member_63 w_1359 k_MD_needSign (c_MD_needSign e63) rfl sh_MD hp_MD rfl ⟨Nat.le_of_ble_eq_true rfl, Nat.le_of_ble_eq_true rfl⟩ (Nat.le_of_ble_eq_true rfl) (Nat.le_of_ble_eq_true rfl) rfl ?_
      refine x_if_eq (tgt := 98) d_MD_member_66 (by decide) (fun c_ => ?_) (fun c_ => ?_)
      · replace h := x_it h c_
        refine x_sbk [0, 1, 2] (lv2 := [(0, .ref 387), (1, .int l1), (2, .int l2)]) rfl ?_; exact b_MD_member_98 hK56 h
      · replace h := x_ie h c_
        refine x_aload_n d_MD_member_69 rfl rfl ?_
        refine x_iload_n d_MD_member_70 rfl rfl ?_
        refine x_sipush (v := 1000) d_MD_member_71 (by decide) ?_
        refine x_icmp_ge (tgt := 81) d_MD_member_74 (by decide) (fun c_ => ?_) (fun c_ => ?_)
        · replace h := x_it h c_
          refine x_iconst (v := 0) d_MD_member_81 (by decide) ?_
          refine x_sbk [0, 1, 2] (lv2 := [(0, .ref 387), (1, .int l1), (2, .int l2)]) rfl ?_; exact b_MD_member_82 hK56 h
        · replace h := x_ie h c_
          refine x_iconst (v := 1) d_MD_member_77 (by decide) ?_
          refine x_goto (tgt := 82) d_MD_member_78 (by decide) ?_
          refine x_sbk [0, 1, 2] (lv2 := [(0, .ref 387), (1, .int l1), (2, .int l2)]) rfl ?_; exact b_MD_member_82 hK56 h
def B_MD_member_35   (l1 : Int32) (s0 : Int32) (m : x_m) : Option (x_m) := ((F_MD_want s0 5 (m.1 387 8) m).bind fun r40 => (if r40.1 = 0 then some r40.2 else (if x_ix l1 8 = true then B_MD_member_56 x_fu l1 (r40.2.2.1 390 l1.toNatClampNeg) 1 r40.2 else none)))
theorem b_MD_member_35 {G : x_G} {ex : Bool} {r : x_m}   {l1 : Int32} {s0 : Int32} {m : x_m} (h : B_MD_member_35 l1 s0 m = some r) : x_W G M_MD_member (x_rd 7) (x_Q G (x_rd 7) ex (x_pv r)) ex x_np (x_hp m) 0 0 [(0, .ref 387), (1, .int l1)] [.int s0, .ref 387] 35 := by
  unfold B_MD_member_35 at h
  refine x_iconst (v := 5) d_MD_member_35 (by decide) ?_
  refine x_aload_n d_MD_member_36 rfl rfl ?_
  refine x_gI d_MD_member_37 (f_MD_77 rfl) sh_MD hp_MD rfl ?_
  obtain ⟨r40, e40, h⟩ := x_bd h
  refine x_cVi (M2 := M_MD_want) (As := [.int s0, .int 5, .int (m.1 387 8)]) (st := []) d_MD_member_40 w_1315 k_MD_want (c_MD_want e40) rfl sh_MD hp_MD rfl ⟨Nat.le_of_ble_eq_true rfl, Nat.le_of_ble_eq_true rfl⟩ (Nat.le_of_ble_eq_true rfl) (Nat.le_of_ble_eq_true rfl) rfl ?_
  refine x_if_ne (tgt := 47) d_MD_member_43 (by decide) (fun c_ => ?_) (fun c_ => ?_)
  · replace h := x_ie h c_
    refine x_aload_n d_MD_member_47 rfl rfl ?_
    refine x_gC d_MD_member_48 (f_MD_28 rfl) sh_MD hp_MD rfl ?_
    refine x_iload_n d_MD_member_51 rfl rfl ?_
    obtain ⟨g_52, h⟩ := x_gd h
    refine x_lI d_MD_member_52 rfl sa_MD_members ha_MD_members g_52 ?_
    refine x_istore_n (lv2 := [(0, .ref 387), (1, .int l1), (2, .int (r40.2.2.1 390 l1.toNatClampNeg))]) d_MD_member_53 rfl (by decide) rfl ?_
    refine x_iconst (v := 1) d_MD_member_54 (by decide) ?_
    refine x_istore_n (lv2 := [(0, .ref 387), (1, .int l1), (2, .int (r40.2.2.1 390 l1.toNatClampNeg)), (3, .int 1)]) d_MD_member_55 rfl (by decide) rfl ?_
    exact b_MD_member_56 _ _ _ _ _ h
  · replace h := x_it h c_
    cases h
    exact x_rv d_MD_member_46 rfl
def B_MD_member_24   (s0 : Int32) (m : x_m) : Option (x_m) := (if s0 < 0 then B_MD_member_35 s0 0 m else B_MD_member_35 s0 1 m)
theorem b_MD_member_24 {G : x_G} {ex : Bool} {r : x_m}   {s0 : Int32} {m : x_m} (h : B_MD_member_24 s0 m = some r) : x_W G M_MD_member (x_rd 7) (x_Q G (x_rd 7) ex (x_pv r)) ex x_np (x_hp m) 0 0 [(0, .ref 387)] [.int s0] 24 := by
  unfold B_MD_member_24 at h
  refine x_istore_n (lv2 := [(0, .ref 387), (1, .int s0)]) d_MD_member_24 rfl (by decide) rfl ?_
  refine x_aload_n d_MD_member_25 rfl rfl ?_
  refine x_iload_n d_MD_member_26 rfl rfl ?_
  refine x_if_lt (tgt := 34) d_MD_member_27 (by decide) (fun c_ => ?_) (fun c_ => ?_)
  · replace h := x_it h c_
    refine x_iconst (v := 0) d_MD_member_34 (by decide) ?_
    exact b_MD_member_35 h
  · replace h := x_ie h c_
    refine x_iconst (v := 1) d_MD_member_30 (by decide) ?_
    refine x_goto (tgt := 35) d_MD_member_31 (by decide) ?_
    exact b_MD_member_35 h
def F_MD_member   (m : x_m) : Option (x_m) := ((F_MD_read m).bind fun r1 => ((F_MD_name r1).bind fun r5 => (if r5.1 = 0 then B_MD_member_24 0 r5.2 else ((F_MD_among 0 (r5.2.1 387 13) r5.2).bind fun r17 => B_MD_member_24 r17.1 r17.2))))
theorem c_MD_member {G : x_G} {ex : Bool} {r : x_m}   {m : x_m} (h : F_MD_member m = some r) : x_R G M_MD_member (x_rd 7) ex [.ref 387] x_np (x_hp m) (x_pv r) := by
  unfold F_MD_member at h
  show x_W G M_MD_member (x_rd 7) (x_Q G (x_rd 7) ex (x_pv r)) ex x_np (x_hp m) 0 0 [(0, .ref 387)] [] 0
  refine x_aload_n d_MD_member_0 rfl rfl ?_
  obtain ⟨r1, e1, h⟩ := x_bd h
  refine x_cVv (M2 := M_MD_read) (As := []) (st := []) d_MD_member_1 w_1240 k_MD_read (c_MD_read e1) rfl sh_MD hp_MD rfl ⟨Nat.le_of_ble_eq_true rfl, Nat.le_of_ble_eq_true rfl⟩ (Nat.le_of_ble_eq_true rfl) (Nat.le_of_ble_eq_true rfl) rfl ?_
  refine x_aload_n d_MD_member_4 rfl rfl ?_
  obtain ⟨r5, e5, h⟩ := x_bd h
  refine x_cVi (M2 := M_MD_name) (As := []) (st := []) d_MD_member_5 w_1343 k_MD_name (c_MD_name e5) rfl sh_MD hp_MD rfl ⟨Nat.le_of_ble_eq_true rfl, Nat.le_of_ble_eq_true rfl⟩ (Nat.le_of_ble_eq_true rfl) (Nat.le_of_ble_eq_true rfl) rfl ?_
  refine x_if_eq (tgt := 23) d_MD_member_8 (by decide) (fun c_ => ?_) (fun c_ => ?_)
  · replace h := x_it h c_
    refine x_iconst (v := 0) d_MD_member_23 (by decide) ?_
    exact b_MD_member_24 h
  · replace h := x_ie h c_
    refine x_aload_n d_MD_member_11 rfl rfl ?_
    refine x_iconst (v := 0) d_MD_member_12 (by decide) ?_
    refine x_aload_n d_MD_member_13 rfl rfl ?_
    refine x_gI d_MD_member_14 (f_MD_150 rfl) sh_MD hp_MD rfl ?_
    obtain ⟨r17, e17, h⟩ := x_bd h
    refine x_cVi (M2 := M_MD_among) (As := [.int 0, .int (r5.2.1 387 13)]) (st := []) d_MD_member_17 w_1347 k_MD_among (c_MD_among e17) rfl sh_MD hp_MD rfl ⟨Nat.le_of_ble_eq_true rfl, Nat.le_of_ble_eq_true rfl⟩ (Nat.le_of_ble_eq_true rfl) (Nat.le_of_ble_eq_true rfl) rfl ?_
    refine x_goto (tgt := 24) d_MD_member_20 (by decide) ?_
    exact b_MD_member_24 h
