def M_NM_isSame : x_M := (⟨"QuestionReader$Names", "isSame", "(ILQuestionReader$Lexer;)Z"⟩, prog_9_method_6_code, 5, some (.boolean), [])
theorem d_NM_isSame_0 : decode M_NM_isSame.2.1 0 = .ok (.aload_n 2, 1) := by decide +kernel
theorem d_NM_isSame_1 : decode M_NM_isSame.2.1 1 = .ok (.getfield 19, 3) := by decide +kernel
theorem d_NM_isSame_4 : decode M_NM_isSame.2.1 4 = .ok (.aload_n 2, 1) := by decide +kernel
theorem d_NM_isSame_5 : decode M_NM_isSame.2.1 5 = .ok (.getfield 25, 3) := by decide +kernel
theorem d_NM_isSame_8 : decode M_NM_isSame.2.1 8 = .ok (.isub, 1) := by decide +kernel
theorem d_NM_isSame_9 : decode M_NM_isSame.2.1 9 = .ok (.istore_n 3, 1) := by decide +kernel
theorem d_NM_isSame_10 : decode M_NM_isSame.2.1 10 = .ok (.aload_n 0, 1) := by decide +kernel
theorem d_NM_isSame_11 : decode M_NM_isSame.2.1 11 = .ok (.getfield 15, 3) := by decide +kernel
theorem d_NM_isSame_14 : decode M_NM_isSame.2.1 14 = .ok (.iload_n 1, 1) := by decide +kernel
theorem d_NM_isSame_15 : decode M_NM_isSame.2.1 15 = .ok (.iaload, 1) := by decide +kernel
theorem d_NM_isSame_16 : decode M_NM_isSame.2.1 16 = .ok (.iload_n 3, 1) := by decide +kernel
theorem d_NM_isSame_17 : decode M_NM_isSame.2.1 17 = .ok (.if_icmp .eq 5, 3) := by decide +kernel
theorem d_NM_isSame_20 : decode M_NM_isSame.2.1 20 = .ok (.iconst 0, 1) := by decide +kernel
theorem d_NM_isSame_21 : decode M_NM_isSame.2.1 21 = .ok (.ireturn, 1) := by decide +kernel
theorem d_NM_isSame_22 : decode M_NM_isSame.2.1 22 = .ok (.iconst 0, 1) := by decide +kernel
theorem d_NM_isSame_23 : decode M_NM_isSame.2.1 23 = .ok (.istore 4, 2) := by decide +kernel
theorem d_NM_isSame_25 : decode M_NM_isSame.2.1 25 = .ok (.iload 4, 2) := by decide +kernel
theorem d_NM_isSame_27 : decode M_NM_isSame.2.1 27 = .ok (.iload_n 3, 1) := by decide +kernel
theorem d_NM_isSame_28 : decode M_NM_isSame.2.1 28 = .ok (.if_icmp .ge 41, 3) := by decide +kernel
theorem d_NM_isSame_31 : decode M_NM_isSame.2.1 31 = .ok (.aload_n 0, 1) := by decide +kernel
theorem d_NM_isSame_32 : decode M_NM_isSame.2.1 32 = .ok (.getfield 11, 3) := by decide +kernel
theorem d_NM_isSame_35 : decode M_NM_isSame.2.1 35 = .ok (.iload_n 1, 1) := by decide +kernel
theorem d_NM_isSame_36 : decode M_NM_isSame.2.1 36 = .ok (.bipush 40, 2) := by decide +kernel
theorem d_NM_isSame_38 : decode M_NM_isSame.2.1 38 = .ok (.imul, 1) := by decide +kernel
theorem d_NM_isSame_39 : decode M_NM_isSame.2.1 39 = .ok (.iload 4, 2) := by decide +kernel
theorem d_NM_isSame_41 : decode M_NM_isSame.2.1 41 = .ok (.iadd, 1) := by decide +kernel
theorem d_NM_isSame_42 : decode M_NM_isSame.2.1 42 = .ok (.baload, 1) := by decide +kernel
theorem d_NM_isSame_43 : decode M_NM_isSame.2.1 43 = .ok (.aload_n 2, 1) := by decide +kernel
theorem d_NM_isSame_44 : decode M_NM_isSame.2.1 44 = .ok (.getfield 28, 3) := by decide +kernel
theorem d_NM_isSame_47 : decode M_NM_isSame.2.1 47 = .ok (.getfield 32, 3) := by decide +kernel
theorem d_NM_isSame_50 : decode M_NM_isSame.2.1 50 = .ok (.aload_n 2, 1) := by decide +kernel
theorem d_NM_isSame_51 : decode M_NM_isSame.2.1 51 = .ok (.getfield 25, 3) := by decide +kernel
theorem d_NM_isSame_54 : decode M_NM_isSame.2.1 54 = .ok (.iload 4, 2) := by decide +kernel
theorem d_NM_isSame_56 : decode M_NM_isSame.2.1 56 = .ok (.iadd, 1) := by decide +kernel
theorem d_NM_isSame_57 : decode M_NM_isSame.2.1 57 = .ok (.baload, 1) := by decide +kernel
theorem d_NM_isSame_58 : decode M_NM_isSame.2.1 58 = .ok (.if_icmp .eq 5, 3) := by decide +kernel
theorem d_NM_isSame_61 : decode M_NM_isSame.2.1 61 = .ok (.iconst 0, 1) := by decide +kernel
theorem d_NM_isSame_62 : decode M_NM_isSame.2.1 62 = .ok (.ireturn, 1) := by decide +kernel
theorem d_NM_isSame_63 : decode M_NM_isSame.2.1 63 = .ok (.iinc 4 1, 3) := by decide +kernel
theorem d_NM_isSame_66 : decode M_NM_isSame.2.1 66 = .ok (.goto (-41), 3) := by decide +kernel
theorem d_NM_isSame_69 : decode M_NM_isSame.2.1 69 = .ok (.iconst 1, 1) := by decide +kernel
theorem d_NM_isSame_70 : decode M_NM_isSame.2.1 70 = .ok (.ireturn, 1) := by decide +kernel
theorem k_NM_isSame : x_kV M_NM_isSame "QuestionReader$Names" 2 := ⟨⟨by decide, Or.inl ⟨w_488, rfl⟩⟩, w_487, ws_9, ⟨by decide, by decide⟩, by decide +kernel⟩
def M_NM_search : x_M := (⟨"QuestionReader$Names", "search", "(IILQuestionReader$Lexer;)I"⟩, prog_9_method_5_code, 5, some (.int), [])
theorem d_NM_search_0 : decode M_NM_search.2.1 0 = .ok (.iconst 0, 1) := by decide +kernel
theorem d_NM_search_1 : decode M_NM_search.2.1 1 = .ok (.istore 4, 2) := by decide +kernel
theorem d_NM_search_3 : decode M_NM_search.2.1 3 = .ok (.iload 4, 2) := by decide +kernel
theorem d_NM_search_5 : decode M_NM_search.2.1 5 = .ok (.iload_n 2, 1) := by decide +kernel
theorem d_NM_search_6 : decode M_NM_search.2.1 6 = .ok (.if_icmp .ge 24, 3) := by decide +kernel
theorem d_NM_search_9 : decode M_NM_search.2.1 9 = .ok (.aload_n 0, 1) := by decide +kernel
theorem d_NM_search_10 : decode M_NM_search.2.1 10 = .ok (.iload_n 1, 1) := by decide +kernel
theorem d_NM_search_11 : decode M_NM_search.2.1 11 = .ok (.iload 4, 2) := by decide +kernel
theorem d_NM_search_13 : decode M_NM_search.2.1 13 = .ok (.iadd, 1) := by decide +kernel
theorem d_NM_search_14 : decode M_NM_search.2.1 14 = .ok (.aload_n 3, 1) := by decide +kernel
theorem d_NM_search_15 : decode M_NM_search.2.1 15 = .ok (.invokevirtual 55, 3) := by decide +kernel
theorem d_NM_search_18 : decode M_NM_search.2.1 18 = .ok (.ifCond .eq 6, 3) := by decide +kernel
theorem d_NM_search_21 : decode M_NM_search.2.1 21 = .ok (.iload 4, 2) := by decide +kernel
theorem d_NM_search_23 : decode M_NM_search.2.1 23 = .ok (.ireturn, 1) := by decide +kernel
theorem d_NM_search_24 : decode M_NM_search.2.1 24 = .ok (.iinc 4 1, 3) := by decide +kernel
theorem d_NM_search_27 : decode M_NM_search.2.1 27 = .ok (.goto (-24), 3) := by decide +kernel
theorem d_NM_search_30 : decode M_NM_search.2.1 30 = .ok (.iconst (-1), 1) := by decide +kernel
theorem d_NM_search_31 : decode M_NM_search.2.1 31 = .ok (.ireturn, 1) := by decide +kernel
theorem k_NM_search : x_kV M_NM_search "QuestionReader$Names" 3 := ⟨⟨by decide, Or.inl ⟨w_484, rfl⟩⟩, w_482, w_483, ⟨by decide, by decide⟩, by decide +kernel⟩
def M_CT_isTaken : x_M := (⟨"QuestionReader$Catalog", "isTaken", "(LQuestionReader$Lexer;)Z"⟩, prog_2_method_6_code, 2, some (.boolean), [])
theorem d_CT_isTaken_0 : decode M_CT_isTaken.2.1 0 = .ok (.aload_n 0, 1) := by decide +kernel
theorem d_CT_isTaken_1 : decode M_CT_isTaken.2.1 1 = .ok (.getfield 12, 3) := by decide +kernel
theorem d_CT_isTaken_4 : decode M_CT_isTaken.2.1 4 = .ok (.iconst 0, 1) := by decide +kernel
theorem d_CT_isTaken_5 : decode M_CT_isTaken.2.1 5 = .ok (.aload_n 0, 1) := by decide +kernel
theorem d_CT_isTaken_6 : decode M_CT_isTaken.2.1 6 = .ok (.getfield 25, 3) := by decide +kernel
theorem d_CT_isTaken_9 : decode M_CT_isTaken.2.1 9 = .ok (.aload_n 1, 1) := by decide +kernel
theorem d_CT_isTaken_10 : decode M_CT_isTaken.2.1 10 = .ok (.invokevirtual 53, 3) := by decide +kernel
theorem d_CT_isTaken_13 : decode M_CT_isTaken.2.1 13 = .ok (.iconst (-1), 1) := by decide +kernel
theorem d_CT_isTaken_14 : decode M_CT_isTaken.2.1 14 = .ok (.if_icmp .ne 21, 3) := by decide +kernel
theorem d_CT_isTaken_17 : decode M_CT_isTaken.2.1 17 = .ok (.aload_n 0, 1) := by decide +kernel
theorem d_CT_isTaken_18 : decode M_CT_isTaken.2.1 18 = .ok (.getfield 12, 3) := by decide +kernel
theorem d_CT_isTaken_21 : decode M_CT_isTaken.2.1 21 = .ok (.bipush 40, 2) := by decide +kernel
theorem d_CT_isTaken_23 : decode M_CT_isTaken.2.1 23 = .ok (.aload_n 0, 1) := by decide +kernel
theorem d_CT_isTaken_24 : decode M_CT_isTaken.2.1 24 = .ok (.getfield 50, 3) := by decide +kernel
theorem d_CT_isTaken_27 : decode M_CT_isTaken.2.1 27 = .ok (.aload_n 1, 1) := by decide +kernel
theorem d_CT_isTaken_28 : decode M_CT_isTaken.2.1 28 = .ok (.invokevirtual 53, 3) := by decide +kernel
theorem d_CT_isTaken_31 : decode M_CT_isTaken.2.1 31 = .ok (.iconst (-1), 1) := by decide +kernel
theorem d_CT_isTaken_32 : decode M_CT_isTaken.2.1 32 = .ok (.if_icmp .eq 7, 3) := by decide +kernel
theorem d_CT_isTaken_35 : decode M_CT_isTaken.2.1 35 = .ok (.iconst 1, 1) := by decide +kernel
theorem d_CT_isTaken_36 : decode M_CT_isTaken.2.1 36 = .ok (.goto 4, 3) := by decide +kernel
theorem d_CT_isTaken_39 : decode M_CT_isTaken.2.1 39 = .ok (.iconst 0, 1) := by decide +kernel
theorem d_CT_isTaken_40 : decode M_CT_isTaken.2.1 40 = .ok (.ireturn, 1) := by decide +kernel
theorem k_CT_isTaken : x_kV M_CT_isTaken "QuestionReader$Catalog" 1 := ⟨⟨by decide, Or.inl ⟨w_712, rfl⟩⟩, w_710, w_711, ⟨by decide, by decide⟩, by decide +kernel⟩
def M_LX_tell : x_M := (⟨"QuestionReader$Lexer", "tell", "(II)Z"⟩, prog_8_method_9_code, 3, some (.boolean), [])
theorem d_LX_tell_0 : decode M_LX_tell.2.1 0 = .ok (.aload_n 0, 1) := by decide +kernel
theorem d_LX_tell_1 : decode M_LX_tell.2.1 1 = .ok (.iload_n 1, 1) := by decide +kernel
theorem d_LX_tell_2 : decode M_LX_tell.2.1 2 = .ok (.putfield 31, 3) := by decide +kernel
theorem d_LX_tell_5 : decode M_LX_tell.2.1 5 = .ok (.aload_n 0, 1) := by decide +kernel
theorem d_LX_tell_6 : decode M_LX_tell.2.1 6 = .ok (.iload_n 2, 1) := by decide +kernel
theorem d_LX_tell_7 : decode M_LX_tell.2.1 7 = .ok (.putfield 20, 3) := by decide +kernel
theorem d_LX_tell_10 : decode M_LX_tell.2.1 10 = .ok (.iconst 0, 1) := by decide +kernel
theorem d_LX_tell_11 : decode M_LX_tell.2.1 11 = .ok (.ireturn, 1) := by decide +kernel
theorem k_LX_tell : x_kV M_LX_tell "QuestionReader$Lexer" 2 := ⟨⟨by decide, Or.inl ⟨w_441, rfl⟩⟩, w_439, w_440, ⟨by decide, by decide⟩, by decide +kernel⟩
def M_LX_atName : x_M := (⟨"QuestionReader$Lexer", "atName", "()Z"⟩, prog_8_method_6_code, 1, some (.boolean), [])
theorem d_LX_atName_0 : decode M_LX_atName.2.1 0 = .ok (.aload_n 0, 1) := by decide +kernel
theorem d_LX_atName_1 : decode M_LX_atName.2.1 1 = .ok (.getfield 15, 3) := by decide +kernel
theorem d_LX_atName_4 : decode M_LX_atName.2.1 4 = .ok (.getstatic 69, 3) := by decide +kernel
theorem d_LX_atName_7 : decode M_LX_atName.2.1 7 = .ok (.if_acmp .eq 29, 3) := by decide +kernel
theorem d_LX_atName_10 : decode M_LX_atName.2.1 10 = .ok (.aload_n 0, 1) := by decide +kernel
theorem d_LX_atName_11 : decode M_LX_atName.2.1 11 = .ok (.aload_n 0, 1) := by decide +kernel
theorem d_LX_atName_12 : decode M_LX_atName.2.1 12 = .ok (.getfield 40, 3) := by decide +kernel
theorem d_LX_atName_15 : decode M_LX_atName.2.1 15 = .ok (.ifCond .eq 7, 3) := by decide +kernel
theorem d_LX_atName_18 : decode M_LX_atName.2.1 18 = .ok (.iconst 5, 1) := by decide +kernel
theorem d_LX_atName_19 : decode M_LX_atName.2.1 19 = .ok (.goto 7, 3) := by decide +kernel
theorem d_LX_atName_22 : decode M_LX_atName.2.1 22 = .ok (.aload_n 0, 1) := by decide +kernel
theorem d_LX_atName_23 : decode M_LX_atName.2.1 23 = .ok (.getfield 44, 3) := by decide +kernel
theorem d_LX_atName_26 : decode M_LX_atName.2.1 26 = .ok (.aload_n 0, 1) := by decide +kernel
theorem d_LX_atName_27 : decode M_LX_atName.2.1 27 = .ok (.getfield 37, 3) := by decide +kernel
theorem d_LX_atName_30 : decode M_LX_atName.2.1 30 = .ok (.invokevirtual 101, 3) := by decide +kernel
theorem d_LX_atName_33 : decode M_LX_atName.2.1 33 = .ok (.ifCond .eq 7, 3) := by decide +kernel
theorem d_LX_atName_36 : decode M_LX_atName.2.1 36 = .ok (.iconst 1, 1) := by decide +kernel
theorem d_LX_atName_37 : decode M_LX_atName.2.1 37 = .ok (.goto 4, 3) := by decide +kernel
theorem d_LX_atName_40 : decode M_LX_atName.2.1 40 = .ok (.iconst 0, 1) := by decide +kernel
theorem d_LX_atName_41 : decode M_LX_atName.2.1 41 = .ok (.ireturn, 1) := by decide +kernel
theorem k_LX_atName : x_kV M_LX_atName "QuestionReader$Lexer" 0 := ⟨⟨by decide, Or.inl ⟨w_480, rfl⟩⟩, w_478, w_479, ⟨by decide, by decide⟩, by decide +kernel⟩
def M_LX_tellHere : x_M := (⟨"QuestionReader$Lexer", "tellHere", "(I)Z"⟩, prog_8_method_8_code, 2, some (.boolean), [])
theorem d_LX_tellHere_0 : decode M_LX_tellHere.2.1 0 = .ok (.aload_n 0, 1) := by decide +kernel
theorem d_LX_tellHere_1 : decode M_LX_tellHere.2.1 1 = .ok (.iload_n 1, 1) := by decide +kernel
theorem d_LX_tellHere_2 : decode M_LX_tellHere.2.1 2 = .ok (.aload_n 0, 1) := by decide +kernel
theorem d_LX_tellHere_3 : decode M_LX_tellHere.2.1 3 = .ok (.getfield 37, 3) := by decide +kernel
theorem d_LX_tellHere_6 : decode M_LX_tellHere.2.1 6 = .ok (.invokevirtual 101, 3) := by decide +kernel
theorem d_LX_tellHere_9 : decode M_LX_tellHere.2.1 9 = .ok (.ireturn, 1) := by decide +kernel
theorem k_LX_tellHere : x_kV M_LX_tellHere "QuestionReader$Lexer" 1 := ⟨⟨by decide, Or.inl ⟨w_437, rfl⟩⟩, w_435, w_436, ⟨by decide, by decide⟩, by decide +kernel⟩
def M_CG_atNewName : x_M := (⟨"QuestionReader$CatalogGrammar", "atNewName", "(Z)Z"⟩, prog_3_method_5_code, 2, some (.boolean), [])
theorem d_CG_atNewName_0 : decode M_CG_atNewName.2.1 0 = .ok (.aload_n 0, 1) := by decide +kernel
theorem d_CG_atNewName_1 : decode M_CG_atNewName.2.1 1 = .ok (.getfield 9, 3) := by decide +kernel
theorem d_CG_atNewName_4 : decode M_CG_atNewName.2.1 4 = .ok (.invokevirtual 107, 3) := by decide +kernel
theorem d_CG_atNewName_7 : decode M_CG_atNewName.2.1 7 = .ok (.ifCond .ne 5, 3) := by decide +kernel
theorem d_CG_atNewName_10 : decode M_CG_atNewName.2.1 10 = .ok (.iconst 0, 1) := by decide +kernel
theorem d_CG_atNewName_11 : decode M_CG_atNewName.2.1 11 = .ok (.ireturn, 1) := by decide +kernel
theorem d_CG_atNewName_12 : decode M_CG_atNewName.2.1 12 = .ok (.aload_n 0, 1) := by decide +kernel
theorem d_CG_atNewName_13 : decode M_CG_atNewName.2.1 13 = .ok (.getfield 15, 3) := by decide +kernel
theorem d_CG_atNewName_16 : decode M_CG_atNewName.2.1 16 = .ok (.aload_n 0, 1) := by decide +kernel
theorem d_CG_atNewName_17 : decode M_CG_atNewName.2.1 17 = .ok (.getfield 9, 3) := by decide +kernel
theorem d_CG_atNewName_20 : decode M_CG_atNewName.2.1 20 = .ok (.invokevirtual 110, 3) := by decide +kernel
theorem d_CG_atNewName_23 : decode M_CG_atNewName.2.1 23 = .ok (.ifCond .eq 13, 3) := by decide +kernel
theorem d_CG_atNewName_26 : decode M_CG_atNewName.2.1 26 = .ok (.aload_n 0, 1) := by decide +kernel
theorem d_CG_atNewName_27 : decode M_CG_atNewName.2.1 27 = .ok (.getfield 9, 3) := by decide +kernel
theorem d_CG_atNewName_30 : decode M_CG_atNewName.2.1 30 = .ok (.bipush 6, 2) := by decide +kernel
theorem d_CG_atNewName_32 : decode M_CG_atNewName.2.1 32 = .ok (.invokevirtual 51, 3) := by decide +kernel
theorem d_CG_atNewName_35 : decode M_CG_atNewName.2.1 35 = .ok (.ireturn, 1) := by decide +kernel
theorem d_CG_atNewName_36 : decode M_CG_atNewName.2.1 36 = .ok (.iload_n 1, 1) := by decide +kernel
theorem d_CG_atNewName_37 : decode M_CG_atNewName.2.1 37 = .ok (.ifCond .eq 15, 3) := by decide +kernel
theorem d_CG_atNewName_40 : decode M_CG_atNewName.2.1 40 = .ok (.aload_n 0, 1) := by decide +kernel
theorem d_CG_atNewName_41 : decode M_CG_atNewName.2.1 41 = .ok (.getfield 9, 3) := by decide +kernel
theorem d_CG_atNewName_44 : decode M_CG_atNewName.2.1 44 = .ok (.bipush 7, 2) := by decide +kernel
theorem d_CG_atNewName_46 : decode M_CG_atNewName.2.1 46 = .ok (.invokevirtual 51, 3) := by decide +kernel
theorem d_CG_atNewName_49 : decode M_CG_atNewName.2.1 49 = .ok (.ifCond .eq 7, 3) := by decide +kernel
theorem d_CG_atNewName_52 : decode M_CG_atNewName.2.1 52 = .ok (.iconst 1, 1) := by decide +kernel
theorem d_CG_atNewName_53 : decode M_CG_atNewName.2.1 53 = .ok (.goto 4, 3) := by decide +kernel
theorem d_CG_atNewName_56 : decode M_CG_atNewName.2.1 56 = .ok (.iconst 0, 1) := by decide +kernel
theorem d_CG_atNewName_57 : decode M_CG_atNewName.2.1 57 = .ok (.ireturn, 1) := by decide +kernel
theorem k_CG_atNewName : x_kV M_CG_atNewName "QuestionReader$CatalogGrammar" 1 := ⟨⟨by decide, Or.inl ⟨w_707, rfl⟩⟩, w_706, ws_23, ⟨by decide, by decide⟩, by decide +kernel⟩
def M_CG_atNewLevel : x_M := (⟨"QuestionReader$CatalogGrammar", "atNewLevel", "(II)Z"⟩, prog_3_method_7_code, 3, some (.boolean), [])
theorem d_CG_atNewLevel_0 : decode M_CG_atNewLevel.2.1 0 = .ok (.aload_n 0, 1) := by decide +kernel
theorem d_CG_atNewLevel_1 : decode M_CG_atNewLevel.2.1 1 = .ok (.getfield 9, 3) := by decide +kernel
theorem d_CG_atNewLevel_4 : decode M_CG_atNewLevel.2.1 4 = .ok (.invokevirtual 107, 3) := by decide +kernel
theorem d_CG_atNewLevel_7 : decode M_CG_atNewLevel.2.1 7 = .ok (.ifCond .ne 5, 3) := by decide +kernel
theorem d_CG_atNewLevel_10 : decode M_CG_atNewLevel.2.1 10 = .ok (.iconst 0, 1) := by decide +kernel
theorem d_CG_atNewLevel_11 : decode M_CG_atNewLevel.2.1 11 = .ok (.ireturn, 1) := by decide +kernel
theorem d_CG_atNewLevel_12 : decode M_CG_atNewLevel.2.1 12 = .ok (.aload_n 0, 1) := by decide +kernel
theorem d_CG_atNewLevel_13 : decode M_CG_atNewLevel.2.1 13 = .ok (.getfield 25, 3) := by decide +kernel
theorem d_CG_atNewLevel_16 : decode M_CG_atNewLevel.2.1 16 = .ok (.iload_n 1, 1) := by decide +kernel
theorem d_CG_atNewLevel_17 : decode M_CG_atNewLevel.2.1 17 = .ok (.iload_n 2, 1) := by decide +kernel
theorem d_CG_atNewLevel_18 : decode M_CG_atNewLevel.2.1 18 = .ok (.aload_n 0, 1) := by decide +kernel
theorem d_CG_atNewLevel_19 : decode M_CG_atNewLevel.2.1 19 = .ok (.getfield 9, 3) := by decide +kernel
theorem d_CG_atNewLevel_22 : decode M_CG_atNewLevel.2.1 22 = .ok (.invokevirtual 131, 3) := by decide +kernel
theorem d_CG_atNewLevel_25 : decode M_CG_atNewLevel.2.1 25 = .ok (.iconst (-1), 1) := by decide +kernel
theorem d_CG_atNewLevel_26 : decode M_CG_atNewLevel.2.1 26 = .ok (.if_icmp .eq 13, 3) := by decide +kernel
theorem d_CG_atNewLevel_29 : decode M_CG_atNewLevel.2.1 29 = .ok (.aload_n 0, 1) := by decide +kernel
theorem d_CG_atNewLevel_30 : decode M_CG_atNewLevel.2.1 30 = .ok (.getfield 9, 3) := by decide +kernel
theorem d_CG_atNewLevel_33 : decode M_CG_atNewLevel.2.1 33 = .ok (.bipush 6, 2) := by decide +kernel
theorem d_CG_atNewLevel_35 : decode M_CG_atNewLevel.2.1 35 = .ok (.invokevirtual 51, 3) := by decide +kernel
theorem d_CG_atNewLevel_38 : decode M_CG_atNewLevel.2.1 38 = .ok (.ireturn, 1) := by decide +kernel
theorem d_CG_atNewLevel_39 : decode M_CG_atNewLevel.2.1 39 = .ok (.iload_n 2, 1) := by decide +kernel
theorem d_CG_atNewLevel_40 : decode M_CG_atNewLevel.2.1 40 = .ok (.iconst 4, 1) := by decide +kernel
theorem d_CG_atNewLevel_41 : decode M_CG_atNewLevel.2.1 41 = .ok (.if_icmp .lt 15, 3) := by decide +kernel
theorem d_CG_atNewLevel_44 : decode M_CG_atNewLevel.2.1 44 = .ok (.aload_n 0, 1) := by decide +kernel
theorem d_CG_atNewLevel_45 : decode M_CG_atNewLevel.2.1 45 = .ok (.getfield 9, 3) := by decide +kernel
theorem d_CG_atNewLevel_48 : decode M_CG_atNewLevel.2.1 48 = .ok (.bipush 7, 2) := by decide +kernel
theorem d_CG_atNewLevel_50 : decode M_CG_atNewLevel.2.1 50 = .ok (.invokevirtual 51, 3) := by decide +kernel
theorem d_CG_atNewLevel_53 : decode M_CG_atNewLevel.2.1 53 = .ok (.ifCond .eq 7, 3) := by decide +kernel
theorem d_CG_atNewLevel_56 : decode M_CG_atNewLevel.2.1 56 = .ok (.iconst 1, 1) := by decide +kernel
theorem d_CG_atNewLevel_57 : decode M_CG_atNewLevel.2.1 57 = .ok (.goto 4, 3) := by decide +kernel
theorem d_CG_atNewLevel_60 : decode M_CG_atNewLevel.2.1 60 = .ok (.iconst 0, 1) := by decide +kernel
theorem d_CG_atNewLevel_61 : decode M_CG_atNewLevel.2.1 61 = .ok (.ireturn, 1) := by decide +kernel
theorem k_CG_atNewLevel : x_kV M_CG_atNewLevel "QuestionReader$CatalogGrammar" 2 := ⟨⟨by decide, Or.inl ⟨w_731, rfl⟩⟩, w_730, ws_25, ⟨by decide, by decide⟩, by decide +kernel⟩
def M_CT_columnNumber : x_M := (⟨"QuestionReader$Catalog", "columnNumber", "(II)I"⟩, prog_2_method_9_code, 2, some (.int), [])
theorem d_CT_columnNumber_0 : decode M_CT_columnNumber.2.1 0 = .ok (.iload_n 0, 1) := by decide +kernel
theorem d_CT_columnNumber_1 : decode M_CT_columnNumber.2.1 1 = .ok (.iconst 4, 1) := by decide +kernel
theorem d_CT_columnNumber_2 : decode M_CT_columnNumber.2.1 2 = .ok (.imul, 1) := by decide +kernel
theorem d_CT_columnNumber_3 : decode M_CT_columnNumber.2.1 3 = .ok (.iload_n 1, 1) := by decide +kernel
theorem d_CT_columnNumber_4 : decode M_CT_columnNumber.2.1 4 = .ok (.iadd, 1) := by decide +kernel
theorem d_CT_columnNumber_5 : decode M_CT_columnNumber.2.1 5 = .ok (.ireturn, 1) := by decide +kernel
theorem k_CT_columnNumber : x_kS M_CT_columnNumber 2 := ⟨⟨by decide, Or.inl ⟨w_503, rfl⟩⟩, w_502, w_6, ⟨by decide, by decide⟩, by decide +kernel⟩
def M_KD_spelled : x_M := (⟨"QuestionReader$Kind", "spelled", "(JLQuestionReader$Kind;)LQuestionReader$Kind;"⟩, prog_7_method_4_code, 4, some (.object "QuestionReader$Kind"), [])
theorem d_KD_spelled_0 : decode M_KD_spelled.2.1 0 = .ok (.lload_n 0, 1) := by decide +kernel
theorem d_KD_spelled_1 : decode M_KD_spelled.2.1 1 = .ok (.lconst 0, 1) := by decide +kernel
theorem d_KD_spelled_2 : decode M_KD_spelled.2.1 2 = .ok (.lcmp, 1) := by decide +kernel
theorem d_KD_spelled_3 : decode M_KD_spelled.2.1 3 = .ok (.ifCond .le 38, 3) := by decide +kernel
theorem d_KD_spelled_6 : decode M_KD_spelled.2.1 6 = .ok (.iconst 0, 1) := by decide +kernel
theorem d_KD_spelled_7 : decode M_KD_spelled.2.1 7 = .ok (.istore_n 3, 1) := by decide +kernel
theorem d_KD_spelled_8 : decode M_KD_spelled.2.1 8 = .ok (.iload_n 3, 1) := by decide +kernel
theorem d_KD_spelled_9 : decode M_KD_spelled.2.1 9 = .ok (.getstatic 145, 3) := by decide +kernel
theorem d_KD_spelled_12 : decode M_KD_spelled.2.1 12 = .ok (.arraylength, 1) := by decide +kernel
theorem d_KD_spelled_13 : decode M_KD_spelled.2.1 13 = .ok (.if_icmp .ge 28, 3) := by decide +kernel
theorem d_KD_spelled_16 : decode M_KD_spelled.2.1 16 = .ok (.getstatic 145, 3) := by decide +kernel
theorem d_KD_spelled_19 : decode M_KD_spelled.2.1 19 = .ok (.iload_n 3, 1) := by decide +kernel
theorem d_KD_spelled_20 : decode M_KD_spelled.2.1 20 = .ok (.aaload, 1) := by decide +kernel
theorem d_KD_spelled_21 : decode M_KD_spelled.2.1 21 = .ok (.getfield 141, 3) := by decide +kernel
theorem d_KD_spelled_24 : decode M_KD_spelled.2.1 24 = .ok (.lload_n 0, 1) := by decide +kernel
theorem d_KD_spelled_25 : decode M_KD_spelled.2.1 25 = .ok (.lcmp, 1) := by decide +kernel
theorem d_KD_spelled_26 : decode M_KD_spelled.2.1 26 = .ok (.ifCond .ne 9, 3) := by decide +kernel
theorem d_KD_spelled_29 : decode M_KD_spelled.2.1 29 = .ok (.getstatic 145, 3) := by decide +kernel
theorem d_KD_spelled_32 : decode M_KD_spelled.2.1 32 = .ok (.iload_n 3, 1) := by decide +kernel
theorem d_KD_spelled_33 : decode M_KD_spelled.2.1 33 = .ok (.aaload, 1) := by decide +kernel
theorem d_KD_spelled_34 : decode M_KD_spelled.2.1 34 = .ok (.areturn, 1) := by decide +kernel
theorem d_KD_spelled_35 : decode M_KD_spelled.2.1 35 = .ok (.iinc 3 1, 3) := by decide +kernel
theorem d_KD_spelled_38 : decode M_KD_spelled.2.1 38 = .ok (.goto (-30), 3) := by decide +kernel
theorem d_KD_spelled_41 : decode M_KD_spelled.2.1 41 = .ok (.aload_n 2, 1) := by decide +kernel
theorem d_KD_spelled_42 : decode M_KD_spelled.2.1 42 = .ok (.areturn, 1) := by decide +kernel
theorem k_KD_spelled : x_kS M_KD_spelled 2 := ⟨⟨by decide, Or.inl ⟨w_407, rfl⟩⟩, w_406, w_5, ⟨by decide, by decide⟩, by decide +kernel⟩
def M_LX_isDigit : x_M := (⟨"QuestionReader$Lexer", "isDigit", "(I)Z"⟩, prog_8_method_14_code, 2, some (.boolean), [])
theorem d_LX_isDigit_0 : decode M_LX_isDigit.2.1 0 = .ok (.iload_n 1, 1) := by decide +kernel
theorem d_LX_isDigit_1 : decode M_LX_isDigit.2.1 1 = .ok (.aload_n 0, 1) := by decide +kernel
theorem d_LX_isDigit_2 : decode M_LX_isDigit.2.1 2 = .ok (.getfield 24, 3) := by decide +kernel
theorem d_LX_isDigit_5 : decode M_LX_isDigit.2.1 5 = .ok (.getfield 47, 3) := by decide +kernel
theorem d_LX_isDigit_8 : decode M_LX_isDigit.2.1 8 = .ok (.if_icmp .ge 35, 3) := by decide +kernel
theorem d_LX_isDigit_11 : decode M_LX_isDigit.2.1 11 = .ok (.aload_n 0, 1) := by decide +kernel
theorem d_LX_isDigit_12 : decode M_LX_isDigit.2.1 12 = .ok (.getfield 24, 3) := by decide +kernel
theorem d_LX_isDigit_15 : decode M_LX_isDigit.2.1 15 = .ok (.getfield 52, 3) := by decide +kernel
theorem d_LX_isDigit_18 : decode M_LX_isDigit.2.1 18 = .ok (.iload_n 1, 1) := by decide +kernel
theorem d_LX_isDigit_19 : decode M_LX_isDigit.2.1 19 = .ok (.baload, 1) := by decide +kernel
theorem d_LX_isDigit_20 : decode M_LX_isDigit.2.1 20 = .ok (.bipush 48, 2) := by decide +kernel
theorem d_LX_isDigit_22 : decode M_LX_isDigit.2.1 22 = .ok (.if_icmp .lt 21, 3) := by decide +kernel
theorem d_LX_isDigit_25 : decode M_LX_isDigit.2.1 25 = .ok (.aload_n 0, 1) := by decide +kernel
theorem d_LX_isDigit_26 : decode M_LX_isDigit.2.1 26 = .ok (.getfield 24, 3) := by decide +kernel
theorem d_LX_isDigit_29 : decode M_LX_isDigit.2.1 29 = .ok (.getfield 52, 3) := by decide +kernel
theorem d_LX_isDigit_32 : decode M_LX_isDigit.2.1 32 = .ok (.iload_n 1, 1) := by decide +kernel
theorem d_LX_isDigit_33 : decode M_LX_isDigit.2.1 33 = .ok (.baload, 1) := by decide +kernel
theorem d_LX_isDigit_34 : decode M_LX_isDigit.2.1 34 = .ok (.bipush 57, 2) := by decide +kernel
theorem d_LX_isDigit_36 : decode M_LX_isDigit.2.1 36 = .ok (.if_icmp .gt 7, 3) := by decide +kernel
theorem d_LX_isDigit_39 : decode M_LX_isDigit.2.1 39 = .ok (.iconst 1, 1) := by decide +kernel
theorem d_LX_isDigit_40 : decode M_LX_isDigit.2.1 40 = .ok (.goto 4, 3) := by decide +kernel
theorem d_LX_isDigit_43 : decode M_LX_isDigit.2.1 43 = .ok (.iconst 0, 1) := by decide +kernel
theorem d_LX_isDigit_44 : decode M_LX_isDigit.2.1 44 = .ok (.ireturn, 1) := by decide +kernel
theorem k_LX_isDigit : x_kV M_LX_isDigit "QuestionReader$Lexer" 1 := ⟨⟨by decide, Or.inl ⟨w_413, rfl⟩⟩, w_412, ws_3, ⟨by decide, by decide⟩, by decide +kernel⟩
def M_LX_isLetter : x_M := (⟨"QuestionReader$Lexer", "isLetter", "(I)Z"⟩, prog_8_method_15_code, 1, some (.boolean), [])
theorem d_LX_isLetter_0 : decode M_LX_isLetter.2.1 0 = .ok (.iload_n 0, 1) := by decide +kernel
theorem d_LX_isLetter_1 : decode M_LX_isLetter.2.1 1 = .ok (.bipush 97, 2) := by decide +kernel
theorem d_LX_isLetter_3 : decode M_LX_isLetter.2.1 3 = .ok (.if_icmp .lt 9, 3) := by decide +kernel
theorem d_LX_isLetter_6 : decode M_LX_isLetter.2.1 6 = .ok (.iload_n 0, 1) := by decide +kernel
theorem d_LX_isLetter_7 : decode M_LX_isLetter.2.1 7 = .ok (.bipush 122, 2) := by decide +kernel
theorem d_LX_isLetter_9 : decode M_LX_isLetter.2.1 9 = .ok (.if_icmp .le 15, 3) := by decide +kernel
theorem d_LX_isLetter_12 : decode M_LX_isLetter.2.1 12 = .ok (.iload_n 0, 1) := by decide +kernel
theorem d_LX_isLetter_13 : decode M_LX_isLetter.2.1 13 = .ok (.bipush 65, 2) := by decide +kernel
theorem d_LX_isLetter_15 : decode M_LX_isLetter.2.1 15 = .ok (.if_icmp .lt 13, 3) := by decide +kernel
theorem d_LX_isLetter_18 : decode M_LX_isLetter.2.1 18 = .ok (.iload_n 0, 1) := by decide +kernel
theorem d_LX_isLetter_19 : decode M_LX_isLetter.2.1 19 = .ok (.bipush 90, 2) := by decide +kernel
theorem d_LX_isLetter_21 : decode M_LX_isLetter.2.1 21 = .ok (.if_icmp .gt 7, 3) := by decide +kernel
theorem d_LX_isLetter_24 : decode M_LX_isLetter.2.1 24 = .ok (.iconst 1, 1) := by decide +kernel
theorem d_LX_isLetter_25 : decode M_LX_isLetter.2.1 25 = .ok (.goto 4, 3) := by decide +kernel
theorem d_LX_isLetter_28 : decode M_LX_isLetter.2.1 28 = .ok (.iconst 0, 1) := by decide +kernel
theorem d_LX_isLetter_29 : decode M_LX_isLetter.2.1 29 = .ok (.ireturn, 1) := by decide +kernel
theorem k_LX_isLetter : x_kS M_LX_isLetter 1 := ⟨⟨by decide, Or.inl ⟨w_396, rfl⟩⟩, w_395, w_3, ⟨by decide, by decide⟩, by decide +kernel⟩
def M_LX_scanNumber : x_M := (⟨"QuestionReader$Lexer", "scanNumber", "()J"⟩, prog_8_method_12_code, 6, some (.long), [])
theorem d_LX_scanNumber_0 : decode M_LX_scanNumber.2.1 0 = .ok (.aload_n 0, 1) := by decide +kernel
theorem d_LX_scanNumber_1 : decode M_LX_scanNumber.2.1 1 = .ok (.getfield 24, 3) := by decide +kernel
theorem d_LX_scanNumber_4 : decode M_LX_scanNumber.2.1 4 = .ok (.getfield 52, 3) := by decide +kernel
theorem d_LX_scanNumber_7 : decode M_LX_scanNumber.2.1 7 = .ok (.aload_n 0, 1) := by decide +kernel
theorem d_LX_scanNumber_8 : decode M_LX_scanNumber.2.1 8 = .ok (.getfield 37, 3) := by decide +kernel
theorem d_LX_scanNumber_11 : decode M_LX_scanNumber.2.1 11 = .ok (.baload, 1) := by decide +kernel
theorem d_LX_scanNumber_12 : decode M_LX_scanNumber.2.1 12 = .ok (.bipush 45, 2) := by decide +kernel
theorem d_LX_scanNumber_14 : decode M_LX_scanNumber.2.1 14 = .ok (.if_icmp .ne 7, 3) := by decide +kernel
theorem d_LX_scanNumber_17 : decode M_LX_scanNumber.2.1 17 = .ok (.iconst 1, 1) := by decide +kernel
theorem d_LX_scanNumber_18 : decode M_LX_scanNumber.2.1 18 = .ok (.goto 4, 3) := by decide +kernel
theorem d_LX_scanNumber_21 : decode M_LX_scanNumber.2.1 21 = .ok (.iconst 0, 1) := by decide +kernel
theorem d_LX_scanNumber_22 : decode M_LX_scanNumber.2.1 22 = .ok (.istore_n 1, 1) := by decide +kernel
theorem d_LX_scanNumber_23 : decode M_LX_scanNumber.2.1 23 = .ok (.lconst 0, 1) := by decide +kernel
theorem d_LX_scanNumber_24 : decode M_LX_scanNumber.2.1 24 = .ok (.lstore_n 2, 1) := by decide +kernel
theorem d_LX_scanNumber_25 : decode M_LX_scanNumber.2.1 25 = .ok (.iload_n 1, 1) := by decide +kernel
theorem d_LX_scanNumber_26 : decode M_LX_scanNumber.2.1 26 = .ok (.ifCond .eq 13, 3) := by decide +kernel
theorem d_LX_scanNumber_29 : decode M_LX_scanNumber.2.1 29 = .ok (.aload_n 0, 1) := by decide +kernel
theorem d_LX_scanNumber_30 : decode M_LX_scanNumber.2.1 30 = .ok (.dup, 1) := by decide +kernel
theorem d_LX_scanNumber_31 : decode M_LX_scanNumber.2.1 31 = .ok (.getfield 28, 3) := by decide +kernel
theorem d_LX_scanNumber_34 : decode M_LX_scanNumber.2.1 34 = .ok (.iconst 1, 1) := by decide +kernel
theorem d_LX_scanNumber_35 : decode M_LX_scanNumber.2.1 35 = .ok (.iadd, 1) := by decide +kernel
theorem d_LX_scanNumber_36 : decode M_LX_scanNumber.2.1 36 = .ok (.putfield 28, 3) := by decide +kernel
theorem d_LX_scanNumber_39 : decode M_LX_scanNumber.2.1 39 = .ok (.aload_n 0, 1) := by decide +kernel
theorem d_LX_scanNumber_40 : decode M_LX_scanNumber.2.1 40 = .ok (.getfield 28, 3) := by decide +kernel
theorem d_LX_scanNumber_43 : decode M_LX_scanNumber.2.1 43 = .ok (.istore 4, 2) := by decide +kernel
theorem d_LX_scanNumber_45 : decode M_LX_scanNumber.2.1 45 = .ok (.iload 4, 2) := by decide +kernel
theorem d_LX_scanNumber_47 : decode M_LX_scanNumber.2.1 47 = .ok (.aload_n 0, 1) := by decide +kernel
theorem d_LX_scanNumber_48 : decode M_LX_scanNumber.2.1 48 = .ok (.getfield 24, 3) := by decide +kernel
theorem d_LX_scanNumber_51 : decode M_LX_scanNumber.2.1 51 = .ok (.getfield 47, 3) := by decide +kernel
theorem d_LX_scanNumber_54 : decode M_LX_scanNumber.2.1 54 = .ok (.if_icmp .ge 67, 3) := by decide +kernel
theorem d_LX_scanNumber_57 : decode M_LX_scanNumber.2.1 57 = .ok (.aload_n 0, 1) := by decide +kernel
theorem d_LX_scanNumber_58 : decode M_LX_scanNumber.2.1 58 = .ok (.getfield 24, 3) := by decide +kernel
theorem d_LX_scanNumber_61 : decode M_LX_scanNumber.2.1 61 = .ok (.getfield 52, 3) := by decide +kernel
theorem d_LX_scanNumber_64 : decode M_LX_scanNumber.2.1 64 = .ok (.iload 4, 2) := by decide +kernel
theorem d_LX_scanNumber_66 : decode M_LX_scanNumber.2.1 66 = .ok (.baload, 1) := by decide +kernel
theorem d_LX_scanNumber_67 : decode M_LX_scanNumber.2.1 67 = .ok (.bipush 48, 2) := by decide +kernel
theorem d_LX_scanNumber_69 : decode M_LX_scanNumber.2.1 69 = .ok (.isub, 1) := by decide +kernel
theorem d_LX_scanNumber_70 : decode M_LX_scanNumber.2.1 70 = .ok (.istore 5, 2) := by decide +kernel
theorem d_LX_scanNumber_72 : decode M_LX_scanNumber.2.1 72 = .ok (.iload 5, 2) := by decide +kernel
theorem d_LX_scanNumber_74 : decode M_LX_scanNumber.2.1 74 = .ok (.ifCond .lt 47, 3) := by decide +kernel
theorem d_LX_scanNumber_77 : decode M_LX_scanNumber.2.1 77 = .ok (.iload 5, 2) := by decide +kernel
theorem d_LX_scanNumber_79 : decode M_LX_scanNumber.2.1 79 = .ok (.bipush 9, 2) := by decide +kernel
theorem d_LX_scanNumber_81 : decode M_LX_scanNumber.2.1 81 = .ok (.if_icmp .le 6, 3) := by decide +kernel
theorem d_LX_scanNumber_84 : decode M_LX_scanNumber.2.1 84 = .ok (.goto 37, 3) := by decide +kernel
theorem d_LX_scanNumber_87 : decode M_LX_scanNumber.2.1 87 = .ok (.lload_n 2, 1) := by decide +kernel
theorem d_LX_scanNumber_88 : decode M_LX_scanNumber.2.1 88 = .ok (.ldc2_w 105, 3) := by decide +kernel
theorem d_LX_scanNumber_91 : decode M_LX_scanNumber.2.1 91 = .ok (.lcmp, 1) := by decide +kernel
theorem d_LX_scanNumber_92 : decode M_LX_scanNumber.2.1 92 = .ok (.ifCond .gt 13, 3) := by decide +kernel
theorem d_LX_scanNumber_95 : decode M_LX_scanNumber.2.1 95 = .ok (.lload_n 2, 1) := by decide +kernel
theorem d_LX_scanNumber_96 : decode M_LX_scanNumber.2.1 96 = .ok (.ldc2_w 107, 3) := by decide +kernel
theorem d_LX_scanNumber_99 : decode M_LX_scanNumber.2.1 99 = .ok (.lmul, 1) := by decide +kernel
theorem d_LX_scanNumber_100 : decode M_LX_scanNumber.2.1 100 = .ok (.iload 5, 2) := by decide +kernel
theorem d_LX_scanNumber_102 : decode M_LX_scanNumber.2.1 102 = .ok (.i2l, 1) := by decide +kernel
theorem d_LX_scanNumber_103 : decode M_LX_scanNumber.2.1 103 = .ok (.ladd, 1) := by decide +kernel
theorem d_LX_scanNumber_104 : decode M_LX_scanNumber.2.1 104 = .ok (.lstore_n 2, 1) := by decide +kernel
theorem d_LX_scanNumber_105 : decode M_LX_scanNumber.2.1 105 = .ok (.aload_n 0, 1) := by decide +kernel
theorem d_LX_scanNumber_106 : decode M_LX_scanNumber.2.1 106 = .ok (.dup, 1) := by decide +kernel
theorem d_LX_scanNumber_107 : decode M_LX_scanNumber.2.1 107 = .ok (.getfield 28, 3) := by decide +kernel
theorem d_LX_scanNumber_110 : decode M_LX_scanNumber.2.1 110 = .ok (.iconst 1, 1) := by decide +kernel
theorem d_LX_scanNumber_111 : decode M_LX_scanNumber.2.1 111 = .ok (.iadd, 1) := by decide +kernel
theorem d_LX_scanNumber_112 : decode M_LX_scanNumber.2.1 112 = .ok (.putfield 28, 3) := by decide +kernel
theorem d_LX_scanNumber_115 : decode M_LX_scanNumber.2.1 115 = .ok (.iinc 4 1, 3) := by decide +kernel
theorem d_LX_scanNumber_118 : decode M_LX_scanNumber.2.1 118 = .ok (.goto (-73), 3) := by decide +kernel
theorem d_LX_scanNumber_121 : decode M_LX_scanNumber.2.1 121 = .ok (.iload_n 1, 1) := by decide +kernel
theorem d_LX_scanNumber_122 : decode M_LX_scanNumber.2.1 122 = .ok (.ifCond .eq 8, 3) := by decide +kernel
theorem d_LX_scanNumber_125 : decode M_LX_scanNumber.2.1 125 = .ok (.lload_n 2, 1) := by decide +kernel
theorem d_LX_scanNumber_126 : decode M_LX_scanNumber.2.1 126 = .ok (.lneg, 1) := by decide +kernel
theorem d_LX_scanNumber_127 : decode M_LX_scanNumber.2.1 127 = .ok (.goto 4, 3) := by decide +kernel
theorem d_LX_scanNumber_130 : decode M_LX_scanNumber.2.1 130 = .ok (.lload_n 2, 1) := by decide +kernel
theorem d_LX_scanNumber_131 : decode M_LX_scanNumber.2.1 131 = .ok (.lreturn, 1) := by decide +kernel
theorem k_LX_scanNumber : x_kV M_LX_scanNumber "QuestionReader$Lexer" 0 := ⟨⟨by decide, Or.inl ⟨w_417, rfl⟩⟩, w_416, ws_4, ⟨by decide, by decide⟩, by decide +kernel⟩
def M_LX_scanSign : x_M := (⟨"QuestionReader$Lexer", "scanSign", "()J"⟩, prog_8_method_13_code, 4, some (.long), [])
theorem d_LX_scanSign_0 : decode M_LX_scanSign.2.1 0 = .ok (.aload_n 0, 1) := by decide +kernel
theorem d_LX_scanSign_1 : decode M_LX_scanSign.2.1 1 = .ok (.getfield 24, 3) := by decide +kernel
theorem d_LX_scanSign_4 : decode M_LX_scanSign.2.1 4 = .ok (.getfield 52, 3) := by decide +kernel
theorem d_LX_scanSign_7 : decode M_LX_scanSign.2.1 7 = .ok (.aload_n 0, 1) := by decide +kernel
theorem d_LX_scanSign_8 : decode M_LX_scanSign.2.1 8 = .ok (.getfield 37, 3) := by decide +kernel
theorem d_LX_scanSign_11 : decode M_LX_scanSign.2.1 11 = .ok (.baload, 1) := by decide +kernel
theorem d_LX_scanSign_12 : decode M_LX_scanSign.2.1 12 = .ok (.istore_n 1, 1) := by decide +kernel
theorem d_LX_scanSign_13 : decode M_LX_scanSign.2.1 13 = .ok (.aload_n 0, 1) := by decide +kernel
theorem d_LX_scanSign_14 : decode M_LX_scanSign.2.1 14 = .ok (.getfield 37, 3) := by decide +kernel
theorem d_LX_scanSign_17 : decode M_LX_scanSign.2.1 17 = .ok (.iconst 1, 1) := by decide +kernel
theorem d_LX_scanSign_18 : decode M_LX_scanSign.2.1 18 = .ok (.iadd, 1) := by decide +kernel
theorem d_LX_scanSign_19 : decode M_LX_scanSign.2.1 19 = .ok (.aload_n 0, 1) := by decide +kernel
theorem d_LX_scanSign_20 : decode M_LX_scanSign.2.1 20 = .ok (.getfield 24, 3) := by decide +kernel
theorem d_LX_scanSign_23 : decode M_LX_scanSign.2.1 23 = .ok (.getfield 47, 3) := by decide +kernel
theorem d_LX_scanSign_26 : decode M_LX_scanSign.2.1 26 = .ok (.if_icmp .ge 20, 3) := by decide +kernel
theorem d_LX_scanSign_29 : decode M_LX_scanSign.2.1 29 = .ok (.aload_n 0, 1) := by decide +kernel
theorem d_LX_scanSign_30 : decode M_LX_scanSign.2.1 30 = .ok (.getfield 24, 3) := by decide +kernel
theorem d_LX_scanSign_33 : decode M_LX_scanSign.2.1 33 = .ok (.getfield 52, 3) := by decide +kernel
theorem d_LX_scanSign_36 : decode M_LX_scanSign.2.1 36 = .ok (.aload_n 0, 1) := by decide +kernel
theorem d_LX_scanSign_37 : decode M_LX_scanSign.2.1 37 = .ok (.getfield 37, 3) := by decide +kernel
theorem d_LX_scanSign_40 : decode M_LX_scanSign.2.1 40 = .ok (.iconst 1, 1) := by decide +kernel
theorem d_LX_scanSign_41 : decode M_LX_scanSign.2.1 41 = .ok (.iadd, 1) := by decide +kernel
theorem d_LX_scanSign_42 : decode M_LX_scanSign.2.1 42 = .ok (.baload, 1) := by decide +kernel
theorem d_LX_scanSign_43 : decode M_LX_scanSign.2.1 43 = .ok (.goto 4, 3) := by decide +kernel
theorem d_LX_scanSign_46 : decode M_LX_scanSign.2.1 46 = .ok (.iconst 0, 1) := by decide +kernel
theorem d_LX_scanSign_47 : decode M_LX_scanSign.2.1 47 = .ok (.istore_n 2, 1) := by decide +kernel
theorem d_LX_scanSign_48 : decode M_LX_scanSign.2.1 48 = .ok (.iload_n 1, 1) := by decide +kernel
theorem d_LX_scanSign_49 : decode M_LX_scanSign.2.1 49 = .ok (.bipush 60, 2) := by decide +kernel
theorem d_LX_scanSign_51 : decode M_LX_scanSign.2.1 51 = .ok (.if_icmp .ne 15, 3) := by decide +kernel
theorem d_LX_scanSign_54 : decode M_LX_scanSign.2.1 54 = .ok (.iload_n 2, 1) := by decide +kernel
theorem d_LX_scanSign_55 : decode M_LX_scanSign.2.1 55 = .ok (.bipush 61, 2) := by decide +kernel
theorem d_LX_scanSign_57 : decode M_LX_scanSign.2.1 57 = .ok (.if_icmp .eq 21, 3) := by decide +kernel
theorem d_LX_scanSign_60 : decode M_LX_scanSign.2.1 60 = .ok (.iload_n 2, 1) := by decide +kernel
theorem d_LX_scanSign_61 : decode M_LX_scanSign.2.1 61 = .ok (.bipush 62, 2) := by decide +kernel
theorem d_LX_scanSign_63 : decode M_LX_scanSign.2.1 63 = .ok (.if_icmp .eq 15, 3) := by decide +kernel
theorem d_LX_scanSign_66 : decode M_LX_scanSign.2.1 66 = .ok (.iload_n 1, 1) := by decide +kernel
theorem d_LX_scanSign_67 : decode M_LX_scanSign.2.1 67 = .ok (.bipush 62, 2) := by decide +kernel
theorem d_LX_scanSign_69 : decode M_LX_scanSign.2.1 69 = .ok (.if_icmp .ne 13, 3) := by decide +kernel
theorem d_LX_scanSign_72 : decode M_LX_scanSign.2.1 72 = .ok (.iload_n 2, 1) := by decide +kernel
theorem d_LX_scanSign_73 : decode M_LX_scanSign.2.1 73 = .ok (.bipush 61, 2) := by decide +kernel
theorem d_LX_scanSign_75 : decode M_LX_scanSign.2.1 75 = .ok (.if_icmp .ne 7, 3) := by decide +kernel
theorem d_LX_scanSign_78 : decode M_LX_scanSign.2.1 78 = .ok (.iconst 1, 1) := by decide +kernel
theorem d_LX_scanSign_79 : decode M_LX_scanSign.2.1 79 = .ok (.goto 4, 3) := by decide +kernel
theorem d_LX_scanSign_82 : decode M_LX_scanSign.2.1 82 = .ok (.iconst 0, 1) := by decide +kernel
theorem d_LX_scanSign_83 : decode M_LX_scanSign.2.1 83 = .ok (.istore_n 3, 1) := by decide +kernel
theorem d_LX_scanSign_84 : decode M_LX_scanSign.2.1 84 = .ok (.aload_n 0, 1) := by decide +kernel
theorem d_LX_scanSign_85 : decode M_LX_scanSign.2.1 85 = .ok (.iload_n 3, 1) := by decide +kernel
theorem d_LX_scanSign_86 : decode M_LX_scanSign.2.1 86 = .ok (.ifCond .eq 12, 3) := by decide +kernel
theorem d_LX_scanSign_89 : decode M_LX_scanSign.2.1 89 = .ok (.aload_n 0, 1) := by decide +kernel
theorem d_LX_scanSign_90 : decode M_LX_scanSign.2.1 90 = .ok (.getfield 37, 3) := by decide +kernel
theorem d_LX_scanSign_93 : decode M_LX_scanSign.2.1 93 = .ok (.iconst 2, 1) := by decide +kernel
theorem d_LX_scanSign_94 : decode M_LX_scanSign.2.1 94 = .ok (.iadd, 1) := by decide +kernel
theorem d_LX_scanSign_95 : decode M_LX_scanSign.2.1 95 = .ok (.goto 9, 3) := by decide +kernel
theorem d_LX_scanSign_98 : decode M_LX_scanSign.2.1 98 = .ok (.aload_n 0, 1) := by decide +kernel
theorem d_LX_scanSign_99 : decode M_LX_scanSign.2.1 99 = .ok (.getfield 37, 3) := by decide +kernel
theorem d_LX_scanSign_102 : decode M_LX_scanSign.2.1 102 = .ok (.iconst 1, 1) := by decide +kernel
theorem d_LX_scanSign_103 : decode M_LX_scanSign.2.1 103 = .ok (.iadd, 1) := by decide +kernel
theorem d_LX_scanSign_104 : decode M_LX_scanSign.2.1 104 = .ok (.putfield 28, 3) := by decide +kernel
theorem d_LX_scanSign_107 : decode M_LX_scanSign.2.1 107 = .ok (.iload_n 3, 1) := by decide +kernel
theorem d_LX_scanSign_108 : decode M_LX_scanSign.2.1 108 = .ok (.ifCond .eq 13, 3) := by decide +kernel
theorem d_LX_scanSign_111 : decode M_LX_scanSign.2.1 111 = .ok (.iload_n 1, 1) := by decide +kernel
theorem d_LX_scanSign_112 : decode M_LX_scanSign.2.1 112 = .ok (.bipush 7, 2) := by decide +kernel
theorem d_LX_scanSign_114 : decode M_LX_scanSign.2.1 114 = .ok (.ishl, 1) := by decide +kernel
theorem d_LX_scanSign_115 : decode M_LX_scanSign.2.1 115 = .ok (.iload_n 2, 1) := by decide +kernel
theorem d_LX_scanSign_116 : decode M_LX_scanSign.2.1 116 = .ok (.ior, 1) := by decide +kernel
theorem d_LX_scanSign_117 : decode M_LX_scanSign.2.1 117 = .ok (.i2l, 1) := by decide +kernel
theorem d_LX_scanSign_118 : decode M_LX_scanSign.2.1 118 = .ok (.goto 5, 3) := by decide +kernel
theorem d_LX_scanSign_121 : decode M_LX_scanSign.2.1 121 = .ok (.iload_n 1, 1) := by decide +kernel
theorem d_LX_scanSign_122 : decode M_LX_scanSign.2.1 122 = .ok (.i2l, 1) := by decide +kernel
theorem d_LX_scanSign_123 : decode M_LX_scanSign.2.1 123 = .ok (.lreturn, 1) := by decide +kernel
theorem k_LX_scanSign : x_kV M_LX_scanSign "QuestionReader$Lexer" 0 := ⟨⟨by decide, Or.inl ⟨w_427, rfl⟩⟩, w_426, ws_5, ⟨by decide, by decide⟩, by decide +kernel⟩
def M_LX_scanWord : x_M := (⟨"QuestionReader$Lexer", "scanWord", "()J"⟩, prog_8_method_11_code, 5, some (.long), [])
theorem d_LX_scanWord_0 : decode M_LX_scanWord.2.1 0 = .ok (.lconst 0, 1) := by decide +kernel
theorem d_LX_scanWord_1 : decode M_LX_scanWord.2.1 1 = .ok (.lstore_n 1, 1) := by decide +kernel
theorem d_LX_scanWord_2 : decode M_LX_scanWord.2.1 2 = .ok (.aload_n 0, 1) := by decide +kernel
theorem d_LX_scanWord_3 : decode M_LX_scanWord.2.1 3 = .ok (.getfield 37, 3) := by decide +kernel
theorem d_LX_scanWord_6 : decode M_LX_scanWord.2.1 6 = .ok (.istore_n 3, 1) := by decide +kernel
theorem d_LX_scanWord_7 : decode M_LX_scanWord.2.1 7 = .ok (.iload_n 3, 1) := by decide +kernel
theorem d_LX_scanWord_8 : decode M_LX_scanWord.2.1 8 = .ok (.aload_n 0, 1) := by decide +kernel
theorem d_LX_scanWord_9 : decode M_LX_scanWord.2.1 9 = .ok (.getfield 24, 3) := by decide +kernel
theorem d_LX_scanWord_12 : decode M_LX_scanWord.2.1 12 = .ok (.getfield 47, 3) := by decide +kernel
theorem d_LX_scanWord_15 : decode M_LX_scanWord.2.1 15 = .ok (.if_icmp .ge 91, 3) := by decide +kernel
theorem d_LX_scanWord_18 : decode M_LX_scanWord.2.1 18 = .ok (.aload_n 0, 1) := by decide +kernel
theorem d_LX_scanWord_19 : decode M_LX_scanWord.2.1 19 = .ok (.getfield 24, 3) := by decide +kernel
theorem d_LX_scanWord_22 : decode M_LX_scanWord.2.1 22 = .ok (.getfield 52, 3) := by decide +kernel
theorem d_LX_scanWord_25 : decode M_LX_scanWord.2.1 25 = .ok (.iload_n 3, 1) := by decide +kernel
theorem d_LX_scanWord_26 : decode M_LX_scanWord.2.1 26 = .ok (.baload, 1) := by decide +kernel
theorem d_LX_scanWord_27 : decode M_LX_scanWord.2.1 27 = .ok (.istore 4, 2) := by decide +kernel
theorem d_LX_scanWord_29 : decode M_LX_scanWord.2.1 29 = .ok (.iload 4, 2) := by decide +kernel
theorem d_LX_scanWord_31 : decode M_LX_scanWord.2.1 31 = .ok (.bipush 97, 2) := by decide +kernel
theorem d_LX_scanWord_33 : decode M_LX_scanWord.2.1 33 = .ok (.if_icmp .lt 10, 3) := by decide +kernel
theorem d_LX_scanWord_36 : decode M_LX_scanWord.2.1 36 = .ok (.iload 4, 2) := by decide +kernel
theorem d_LX_scanWord_38 : decode M_LX_scanWord.2.1 38 = .ok (.bipush 122, 2) := by decide +kernel
theorem d_LX_scanWord_40 : decode M_LX_scanWord.2.1 40 = .ok (.if_icmp .le 41, 3) := by decide +kernel
theorem d_LX_scanWord_43 : decode M_LX_scanWord.2.1 43 = .ok (.iload 4, 2) := by decide +kernel
theorem d_LX_scanWord_45 : decode M_LX_scanWord.2.1 45 = .ok (.bipush 65, 2) := by decide +kernel
theorem d_LX_scanWord_47 : decode M_LX_scanWord.2.1 47 = .ok (.if_icmp .lt 10, 3) := by decide +kernel
theorem d_LX_scanWord_50 : decode M_LX_scanWord.2.1 50 = .ok (.iload 4, 2) := by decide +kernel
theorem d_LX_scanWord_52 : decode M_LX_scanWord.2.1 52 = .ok (.bipush 90, 2) := by decide +kernel
theorem d_LX_scanWord_54 : decode M_LX_scanWord.2.1 54 = .ok (.if_icmp .le 27, 3) := by decide +kernel
theorem d_LX_scanWord_57 : decode M_LX_scanWord.2.1 57 = .ok (.iload 4, 2) := by decide +kernel
theorem d_LX_scanWord_59 : decode M_LX_scanWord.2.1 59 = .ok (.bipush 48, 2) := by decide +kernel
theorem d_LX_scanWord_61 : decode M_LX_scanWord.2.1 61 = .ok (.if_icmp .lt 10, 3) := by decide +kernel
theorem d_LX_scanWord_64 : decode M_LX_scanWord.2.1 64 = .ok (.iload 4, 2) := by decide +kernel
theorem d_LX_scanWord_66 : decode M_LX_scanWord.2.1 66 = .ok (.bipush 57, 2) := by decide +kernel
theorem d_LX_scanWord_68 : decode M_LX_scanWord.2.1 68 = .ok (.if_icmp .le 13, 3) := by decide +kernel
theorem d_LX_scanWord_71 : decode M_LX_scanWord.2.1 71 = .ok (.iload 4, 2) := by decide +kernel
theorem d_LX_scanWord_73 : decode M_LX_scanWord.2.1 73 = .ok (.bipush 95, 2) := by decide +kernel
theorem d_LX_scanWord_75 : decode M_LX_scanWord.2.1 75 = .ok (.if_icmp .eq 6, 3) := by decide +kernel
theorem d_LX_scanWord_78 : decode M_LX_scanWord.2.1 78 = .ok (.goto 28, 3) := by decide +kernel
theorem d_LX_scanWord_81 : decode M_LX_scanWord.2.1 81 = .ok (.lload_n 1, 1) := by decide +kernel
theorem d_LX_scanWord_82 : decode M_LX_scanWord.2.1 82 = .ok (.bipush 7, 2) := by decide +kernel
theorem d_LX_scanWord_84 : decode M_LX_scanWord.2.1 84 = .ok (.lshl, 1) := by decide +kernel
theorem d_LX_scanWord_85 : decode M_LX_scanWord.2.1 85 = .ok (.iload 4, 2) := by decide +kernel
theorem d_LX_scanWord_87 : decode M_LX_scanWord.2.1 87 = .ok (.i2l, 1) := by decide +kernel
theorem d_LX_scanWord_88 : decode M_LX_scanWord.2.1 88 = .ok (.lor, 1) := by decide +kernel
theorem d_LX_scanWord_89 : decode M_LX_scanWord.2.1 89 = .ok (.lstore_n 1, 1) := by decide +kernel
theorem d_LX_scanWord_90 : decode M_LX_scanWord.2.1 90 = .ok (.aload_n 0, 1) := by decide +kernel
theorem d_LX_scanWord_91 : decode M_LX_scanWord.2.1 91 = .ok (.dup, 1) := by decide +kernel
theorem d_LX_scanWord_92 : decode M_LX_scanWord.2.1 92 = .ok (.getfield 28, 3) := by decide +kernel
theorem d_LX_scanWord_95 : decode M_LX_scanWord.2.1 95 = .ok (.iconst 1, 1) := by decide +kernel
theorem d_LX_scanWord_96 : decode M_LX_scanWord.2.1 96 = .ok (.iadd, 1) := by decide +kernel
theorem d_LX_scanWord_97 : decode M_LX_scanWord.2.1 97 = .ok (.putfield 28, 3) := by decide +kernel
theorem d_LX_scanWord_100 : decode M_LX_scanWord.2.1 100 = .ok (.iinc 3 1, 3) := by decide +kernel
theorem d_LX_scanWord_103 : decode M_LX_scanWord.2.1 103 = .ok (.goto (-96), 3) := by decide +kernel
theorem d_LX_scanWord_106 : decode M_LX_scanWord.2.1 106 = .ok (.aload_n 0, 1) := by decide +kernel
theorem d_LX_scanWord_107 : decode M_LX_scanWord.2.1 107 = .ok (.getfield 28, 3) := by decide +kernel
theorem d_LX_scanWord_110 : decode M_LX_scanWord.2.1 110 = .ok (.aload_n 0, 1) := by decide +kernel
theorem d_LX_scanWord_111 : decode M_LX_scanWord.2.1 111 = .ok (.getfield 37, 3) := by decide +kernel
theorem d_LX_scanWord_114 : decode M_LX_scanWord.2.1 114 = .ok (.isub, 1) := by decide +kernel
theorem d_LX_scanWord_115 : decode M_LX_scanWord.2.1 115 = .ok (.bipush 9, 2) := by decide +kernel
theorem d_LX_scanWord_117 : decode M_LX_scanWord.2.1 117 = .ok (.if_icmp .le 7, 3) := by decide +kernel
theorem d_LX_scanWord_120 : decode M_LX_scanWord.2.1 120 = .ok (.lconst 0, 1) := by decide +kernel
theorem d_LX_scanWord_121 : decode M_LX_scanWord.2.1 121 = .ok (.goto 4, 3) := by decide +kernel
theorem d_LX_scanWord_124 : decode M_LX_scanWord.2.1 124 = .ok (.lload_n 1, 1) := by decide +kernel
theorem d_LX_scanWord_125 : decode M_LX_scanWord.2.1 125 = .ok (.lreturn, 1) := by decide +kernel
theorem k_LX_scanWord : x_kV M_LX_scanWord "QuestionReader$Lexer" 0 := ⟨⟨by decide, Or.inl ⟨w_400, rfl⟩⟩, w_399, ws_2, ⟨by decide, by decide⟩, by decide +kernel⟩
def M_LX_skipBlanks : x_M := (⟨"QuestionReader$Lexer", "skipBlanks", "()V"⟩, prog_8_method_10_code, 3, none, [])
theorem d_LX_skipBlanks_0 : decode M_LX_skipBlanks.2.1 0 = .ok (.aload_n 0, 1) := by decide +kernel
theorem d_LX_skipBlanks_1 : decode M_LX_skipBlanks.2.1 1 = .ok (.getfield 28, 3) := by decide +kernel
theorem d_LX_skipBlanks_4 : decode M_LX_skipBlanks.2.1 4 = .ok (.istore_n 1, 1) := by decide +kernel
theorem d_LX_skipBlanks_5 : decode M_LX_skipBlanks.2.1 5 = .ok (.iload_n 1, 1) := by decide +kernel
theorem d_LX_skipBlanks_6 : decode M_LX_skipBlanks.2.1 6 = .ok (.aload_n 0, 1) := by decide +kernel
theorem d_LX_skipBlanks_7 : decode M_LX_skipBlanks.2.1 7 = .ok (.getfield 24, 3) := by decide +kernel
theorem d_LX_skipBlanks_10 : decode M_LX_skipBlanks.2.1 10 = .ok (.getfield 47, 3) := by decide +kernel
theorem d_LX_skipBlanks_13 : decode M_LX_skipBlanks.2.1 13 = .ok (.if_icmp .ge 56, 3) := by decide +kernel
theorem d_LX_skipBlanks_16 : decode M_LX_skipBlanks.2.1 16 = .ok (.aload_n 0, 1) := by decide +kernel
theorem d_LX_skipBlanks_17 : decode M_LX_skipBlanks.2.1 17 = .ok (.getfield 24, 3) := by decide +kernel
theorem d_LX_skipBlanks_20 : decode M_LX_skipBlanks.2.1 20 = .ok (.getfield 52, 3) := by decide +kernel
theorem d_LX_skipBlanks_23 : decode M_LX_skipBlanks.2.1 23 = .ok (.iload_n 1, 1) := by decide +kernel
theorem d_LX_skipBlanks_24 : decode M_LX_skipBlanks.2.1 24 = .ok (.baload, 1) := by decide +kernel
theorem d_LX_skipBlanks_25 : decode M_LX_skipBlanks.2.1 25 = .ok (.istore_n 2, 1) := by decide +kernel
theorem d_LX_skipBlanks_26 : decode M_LX_skipBlanks.2.1 26 = .ok (.iload_n 2, 1) := by decide +kernel
theorem d_LX_skipBlanks_27 : decode M_LX_skipBlanks.2.1 27 = .ok (.bipush 32, 2) := by decide +kernel
theorem d_LX_skipBlanks_29 : decode M_LX_skipBlanks.2.1 29 = .ok (.if_icmp .eq 24, 3) := by decide +kernel
theorem d_LX_skipBlanks_32 : decode M_LX_skipBlanks.2.1 32 = .ok (.iload_n 2, 1) := by decide +kernel
theorem d_LX_skipBlanks_33 : decode M_LX_skipBlanks.2.1 33 = .ok (.bipush 9, 2) := by decide +kernel
theorem d_LX_skipBlanks_35 : decode M_LX_skipBlanks.2.1 35 = .ok (.if_icmp .eq 18, 3) := by decide +kernel
theorem d_LX_skipBlanks_38 : decode M_LX_skipBlanks.2.1 38 = .ok (.iload_n 2, 1) := by decide +kernel
theorem d_LX_skipBlanks_39 : decode M_LX_skipBlanks.2.1 39 = .ok (.bipush 10, 2) := by decide +kernel
theorem d_LX_skipBlanks_41 : decode M_LX_skipBlanks.2.1 41 = .ok (.if_icmp .eq 12, 3) := by decide +kernel
theorem d_LX_skipBlanks_44 : decode M_LX_skipBlanks.2.1 44 = .ok (.iload_n 2, 1) := by decide +kernel
theorem d_LX_skipBlanks_45 : decode M_LX_skipBlanks.2.1 45 = .ok (.bipush 13, 2) := by decide +kernel
theorem d_LX_skipBlanks_47 : decode M_LX_skipBlanks.2.1 47 = .ok (.if_icmp .eq 6, 3) := by decide +kernel
theorem d_LX_skipBlanks_50 : decode M_LX_skipBlanks.2.1 50 = .ok (.goto 19, 3) := by decide +kernel
theorem d_LX_skipBlanks_53 : decode M_LX_skipBlanks.2.1 53 = .ok (.aload_n 0, 1) := by decide +kernel
theorem d_LX_skipBlanks_54 : decode M_LX_skipBlanks.2.1 54 = .ok (.dup, 1) := by decide +kernel
theorem d_LX_skipBlanks_55 : decode M_LX_skipBlanks.2.1 55 = .ok (.getfield 28, 3) := by decide +kernel
theorem d_LX_skipBlanks_58 : decode M_LX_skipBlanks.2.1 58 = .ok (.iconst 1, 1) := by decide +kernel
theorem d_LX_skipBlanks_59 : decode M_LX_skipBlanks.2.1 59 = .ok (.iadd, 1) := by decide +kernel
theorem d_LX_skipBlanks_60 : decode M_LX_skipBlanks.2.1 60 = .ok (.putfield 28, 3) := by decide +kernel
theorem d_LX_skipBlanks_63 : decode M_LX_skipBlanks.2.1 63 = .ok (.iinc 1 1, 3) := by decide +kernel
theorem d_LX_skipBlanks_66 : decode M_LX_skipBlanks.2.1 66 = .ok (.goto (-61), 3) := by decide +kernel
theorem d_LX_skipBlanks_69 : decode M_LX_skipBlanks.2.1 69 = .ok (.return_, 1) := by decide +kernel
theorem k_LX_skipBlanks : x_kV M_LX_skipBlanks "QuestionReader$Lexer" 0 := ⟨⟨by decide, Or.inl ⟨w_393, rfl⟩⟩, w_392, ws_1, ⟨by decide, by decide⟩, by decide +kernel⟩
def M_LX_advance : x_M := (⟨"QuestionReader$Lexer", "advance", "()V"⟩, prog_8_method_3_code, 3, none, [])
theorem d_LX_advance_0 : decode M_LX_advance.2.1 0 = .ok (.aload_n 0, 1) := by decide +kernel
theorem d_LX_advance_1 : decode M_LX_advance.2.1 1 = .ok (.invokevirtual 34, 3) := by decide +kernel
theorem d_LX_advance_4 : decode M_LX_advance.2.1 4 = .ok (.aload_n 0, 1) := by decide +kernel
theorem d_LX_advance_5 : decode M_LX_advance.2.1 5 = .ok (.aload_n 0, 1) := by decide +kernel
theorem d_LX_advance_6 : decode M_LX_advance.2.1 6 = .ok (.getfield 28, 3) := by decide +kernel
theorem d_LX_advance_9 : decode M_LX_advance.2.1 9 = .ok (.putfield 37, 3) := by decide +kernel
theorem d_LX_advance_12 : decode M_LX_advance.2.1 12 = .ok (.aload_n 0, 1) := by decide +kernel
theorem d_LX_advance_13 : decode M_LX_advance.2.1 13 = .ok (.iconst 0, 1) := by decide +kernel
theorem d_LX_advance_14 : decode M_LX_advance.2.1 14 = .ok (.putfield 40, 3) := by decide +kernel
theorem d_LX_advance_17 : decode M_LX_advance.2.1 17 = .ok (.aload_n 0, 1) := by decide +kernel
theorem d_LX_advance_18 : decode M_LX_advance.2.1 18 = .ok (.iconst 4, 1) := by decide +kernel
theorem d_LX_advance_19 : decode M_LX_advance.2.1 19 = .ok (.putfield 44, 3) := by decide +kernel
theorem d_LX_advance_22 : decode M_LX_advance.2.1 22 = .ok (.aload_n 0, 1) := by decide +kernel
theorem d_LX_advance_23 : decode M_LX_advance.2.1 23 = .ok (.getfield 37, 3) := by decide +kernel
theorem d_LX_advance_26 : decode M_LX_advance.2.1 26 = .ok (.aload_n 0, 1) := by decide +kernel
theorem d_LX_advance_27 : decode M_LX_advance.2.1 27 = .ok (.getfield 24, 3) := by decide +kernel
theorem d_LX_advance_30 : decode M_LX_advance.2.1 30 = .ok (.getfield 47, 3) := by decide +kernel
theorem d_LX_advance_33 : decode M_LX_advance.2.1 33 = .ok (.if_icmp .lt 18, 3) := by decide +kernel
theorem d_LX_advance_36 : decode M_LX_advance.2.1 36 = .ok (.aload_n 0, 1) := by decide +kernel
theorem d_LX_advance_37 : decode M_LX_advance.2.1 37 = .ok (.getstatic 9, 3) := by decide +kernel
theorem d_LX_advance_40 : decode M_LX_advance.2.1 40 = .ok (.putfield 15, 3) := by decide +kernel
theorem d_LX_advance_43 : decode M_LX_advance.2.1 43 = .ok (.aload_n 0, 1) := by decide +kernel
theorem d_LX_advance_44 : decode M_LX_advance.2.1 44 = .ok (.iconst 3, 1) := by decide +kernel
theorem d_LX_advance_45 : decode M_LX_advance.2.1 45 = .ok (.putfield 44, 3) := by decide +kernel
theorem d_LX_advance_48 : decode M_LX_advance.2.1 48 = .ok (.goto 195, 3) := by decide +kernel
theorem d_LX_advance_51 : decode M_LX_advance.2.1 51 = .ok (.aload_n 0, 1) := by decide +kernel
theorem d_LX_advance_52 : decode M_LX_advance.2.1 52 = .ok (.getfield 24, 3) := by decide +kernel
theorem d_LX_advance_55 : decode M_LX_advance.2.1 55 = .ok (.getfield 52, 3) := by decide +kernel
theorem d_LX_advance_58 : decode M_LX_advance.2.1 58 = .ok (.aload_n 0, 1) := by decide +kernel
theorem d_LX_advance_59 : decode M_LX_advance.2.1 59 = .ok (.getfield 37, 3) := by decide +kernel
theorem d_LX_advance_62 : decode M_LX_advance.2.1 62 = .ok (.baload, 1) := by decide +kernel
theorem d_LX_advance_63 : decode M_LX_advance.2.1 63 = .ok (.invokestatic 56, 3) := by decide +kernel
theorem d_LX_advance_66 : decode M_LX_advance.2.1 66 = .ok (.ifCond .eq 47, 3) := by decide +kernel
theorem d_LX_advance_69 : decode M_LX_advance.2.1 69 = .ok (.aload_n 0, 1) := by decide +kernel
theorem d_LX_advance_70 : decode M_LX_advance.2.1 70 = .ok (.invokevirtual 60, 3) := by decide +kernel
theorem d_LX_advance_73 : decode M_LX_advance.2.1 73 = .ok (.lstore_n 1, 1) := by decide +kernel
theorem d_LX_advance_74 : decode M_LX_advance.2.1 74 = .ok (.aload_n 0, 1) := by decide +kernel
theorem d_LX_advance_75 : decode M_LX_advance.2.1 75 = .ok (.iconst 1, 1) := by decide +kernel
theorem d_LX_advance_76 : decode M_LX_advance.2.1 76 = .ok (.putfield 40, 3) := by decide +kernel
theorem d_LX_advance_79 : decode M_LX_advance.2.1 79 = .ok (.aload_n 0, 1) := by decide +kernel
theorem d_LX_advance_80 : decode M_LX_advance.2.1 80 = .ok (.aload_n 0, 1) := by decide +kernel
theorem d_LX_advance_81 : decode M_LX_advance.2.1 81 = .ok (.getfield 28, 3) := by decide +kernel
theorem d_LX_advance_84 : decode M_LX_advance.2.1 84 = .ok (.aload_n 0, 1) := by decide +kernel
theorem d_LX_advance_85 : decode M_LX_advance.2.1 85 = .ok (.getfield 37, 3) := by decide +kernel
theorem d_LX_advance_88 : decode M_LX_advance.2.1 88 = .ok (.isub, 1) := by decide +kernel
theorem d_LX_advance_89 : decode M_LX_advance.2.1 89 = .ok (.bipush 40, 2) := by decide +kernel
theorem d_LX_advance_91 : decode M_LX_advance.2.1 91 = .ok (.if_icmp .le 9, 3) := by decide +kernel
theorem d_LX_advance_94 : decode M_LX_advance.2.1 94 = .ok (.getstatic 66, 3) := by decide +kernel
theorem d_LX_advance_97 : decode M_LX_advance.2.1 97 = .ok (.goto 10, 3) := by decide +kernel
theorem d_LX_advance_100 : decode M_LX_advance.2.1 100 = .ok (.lload_n 1, 1) := by decide +kernel
theorem d_LX_advance_101 : decode M_LX_advance.2.1 101 = .ok (.getstatic 69, 3) := by decide +kernel
theorem d_LX_advance_104 : decode M_LX_advance.2.1 104 = .ok (.invokestatic 72, 3) := by decide +kernel
theorem d_LX_advance_107 : decode M_LX_advance.2.1 107 = .ok (.putfield 15, 3) := by decide +kernel
theorem d_LX_advance_110 : decode M_LX_advance.2.1 110 = .ok (.goto 133, 3) := by decide +kernel
theorem d_LX_advance_113 : decode M_LX_advance.2.1 113 = .ok (.aload_n 0, 1) := by decide +kernel
theorem d_LX_advance_114 : decode M_LX_advance.2.1 114 = .ok (.aload_n 0, 1) := by decide +kernel
theorem d_LX_advance_115 : decode M_LX_advance.2.1 115 = .ok (.getfield 37, 3) := by decide +kernel
theorem d_LX_advance_118 : decode M_LX_advance.2.1 118 = .ok (.invokevirtual 76, 3) := by decide +kernel
theorem d_LX_advance_121 : decode M_LX_advance.2.1 121 = .ok (.ifCond .ne 33, 3) := by decide +kernel
theorem d_LX_advance_124 : decode M_LX_advance.2.1 124 = .ok (.aload_n 0, 1) := by decide +kernel
theorem d_LX_advance_125 : decode M_LX_advance.2.1 125 = .ok (.getfield 24, 3) := by decide +kernel
theorem d_LX_advance_128 : decode M_LX_advance.2.1 128 = .ok (.getfield 52, 3) := by decide +kernel
theorem d_LX_advance_131 : decode M_LX_advance.2.1 131 = .ok (.aload_n 0, 1) := by decide +kernel
theorem d_LX_advance_132 : decode M_LX_advance.2.1 132 = .ok (.getfield 37, 3) := by decide +kernel
theorem d_LX_advance_135 : decode M_LX_advance.2.1 135 = .ok (.baload, 1) := by decide +kernel
theorem d_LX_advance_136 : decode M_LX_advance.2.1 136 = .ok (.bipush 45, 2) := by decide +kernel
theorem d_LX_advance_138 : decode M_LX_advance.2.1 138 = .ok (.if_icmp .ne 72, 3) := by decide +kernel
theorem d_LX_advance_141 : decode M_LX_advance.2.1 141 = .ok (.aload_n 0, 1) := by decide +kernel
theorem d_LX_advance_142 : decode M_LX_advance.2.1 142 = .ok (.aload_n 0, 1) := by decide +kernel
theorem d_LX_advance_143 : decode M_LX_advance.2.1 143 = .ok (.getfield 37, 3) := by decide +kernel
theorem d_LX_advance_146 : decode M_LX_advance.2.1 146 = .ok (.iconst 1, 1) := by decide +kernel
theorem d_LX_advance_147 : decode M_LX_advance.2.1 147 = .ok (.iadd, 1) := by decide +kernel
theorem d_LX_advance_148 : decode M_LX_advance.2.1 148 = .ok (.invokevirtual 76, 3) := by decide +kernel
theorem d_LX_advance_151 : decode M_LX_advance.2.1 151 = .ok (.ifCond .eq 59, 3) := by decide +kernel
theorem d_LX_advance_154 : decode M_LX_advance.2.1 154 = .ok (.aload_n 0, 1) := by decide +kernel
theorem d_LX_advance_155 : decode M_LX_advance.2.1 155 = .ok (.invokevirtual 79, 3) := by decide +kernel
theorem d_LX_advance_158 : decode M_LX_advance.2.1 158 = .ok (.lstore_n 1, 1) := by decide +kernel
theorem d_LX_advance_159 : decode M_LX_advance.2.1 159 = .ok (.aload_n 0, 1) := by decide +kernel
theorem d_LX_advance_160 : decode M_LX_advance.2.1 160 = .ok (.lload_n 1, 1) := by decide +kernel
theorem d_LX_advance_161 : decode M_LX_advance.2.1 161 = .ok (.l2i, 1) := by decide +kernel
theorem d_LX_advance_162 : decode M_LX_advance.2.1 162 = .ok (.putfield 82, 3) := by decide +kernel
theorem d_LX_advance_165 : decode M_LX_advance.2.1 165 = .ok (.aload_n 0, 1) := by decide +kernel
theorem d_LX_advance_166 : decode M_LX_advance.2.1 166 = .ok (.aload_n 0, 1) := by decide +kernel
theorem d_LX_advance_167 : decode M_LX_advance.2.1 167 = .ok (.getfield 82, 3) := by decide +kernel
theorem d_LX_advance_170 : decode M_LX_advance.2.1 170 = .ok (.i2l, 1) := by decide +kernel
theorem d_LX_advance_171 : decode M_LX_advance.2.1 171 = .ok (.lload_n 1, 1) := by decide +kernel
theorem d_LX_advance_172 : decode M_LX_advance.2.1 172 = .ok (.lcmp, 1) := by decide +kernel
theorem d_LX_advance_173 : decode M_LX_advance.2.1 173 = .ok (.ifCond .ne 9, 3) := by decide +kernel
theorem d_LX_advance_176 : decode M_LX_advance.2.1 176 = .ok (.getstatic 85, 3) := by decide +kernel
theorem d_LX_advance_179 : decode M_LX_advance.2.1 179 = .ok (.goto 6, 3) := by decide +kernel
theorem d_LX_advance_182 : decode M_LX_advance.2.1 182 = .ok (.getstatic 88, 3) := by decide +kernel
theorem d_LX_advance_185 : decode M_LX_advance.2.1 185 = .ok (.putfield 15, 3) := by decide +kernel
theorem d_LX_advance_188 : decode M_LX_advance.2.1 188 = .ok (.aload_n 0, 1) := by decide +kernel
theorem d_LX_advance_189 : decode M_LX_advance.2.1 189 = .ok (.aload_n 0, 1) := by decide +kernel
theorem d_LX_advance_190 : decode M_LX_advance.2.1 190 = .ok (.getfield 82, 3) := by decide +kernel
theorem d_LX_advance_193 : decode M_LX_advance.2.1 193 = .ok (.i2l, 1) := by decide +kernel
theorem d_LX_advance_194 : decode M_LX_advance.2.1 194 = .ok (.lload_n 1, 1) := by decide +kernel
theorem d_LX_advance_195 : decode M_LX_advance.2.1 195 = .ok (.lcmp, 1) := by decide +kernel
theorem d_LX_advance_196 : decode M_LX_advance.2.1 196 = .ok (.ifCond .ne 7, 3) := by decide +kernel
theorem d_LX_advance_199 : decode M_LX_advance.2.1 199 = .ok (.iconst 4, 1) := by decide +kernel
theorem d_LX_advance_200 : decode M_LX_advance.2.1 200 = .ok (.goto 4, 3) := by decide +kernel
theorem d_LX_advance_203 : decode M_LX_advance.2.1 203 = .ok (.iconst 2, 1) := by decide +kernel
theorem d_LX_advance_204 : decode M_LX_advance.2.1 204 = .ok (.putfield 44, 3) := by decide +kernel
theorem d_LX_advance_207 : decode M_LX_advance.2.1 207 = .ok (.goto 36, 3) := by decide +kernel
theorem d_LX_advance_210 : decode M_LX_advance.2.1 210 = .ok (.aload_n 0, 1) := by decide +kernel
theorem d_LX_advance_211 : decode M_LX_advance.2.1 211 = .ok (.aload_n 0, 1) := by decide +kernel
theorem d_LX_advance_212 : decode M_LX_advance.2.1 212 = .ok (.invokevirtual 91, 3) := by decide +kernel
theorem d_LX_advance_215 : decode M_LX_advance.2.1 215 = .ok (.getstatic 88, 3) := by decide +kernel
theorem d_LX_advance_218 : decode M_LX_advance.2.1 218 = .ok (.invokestatic 72, 3) := by decide +kernel
theorem d_LX_advance_221 : decode M_LX_advance.2.1 221 = .ok (.putfield 15, 3) := by decide +kernel
theorem d_LX_advance_224 : decode M_LX_advance.2.1 224 = .ok (.aload_n 0, 1) := by decide +kernel
theorem d_LX_advance_225 : decode M_LX_advance.2.1 225 = .ok (.aload_n 0, 1) := by decide +kernel
theorem d_LX_advance_226 : decode M_LX_advance.2.1 226 = .ok (.getfield 15, 3) := by decide +kernel
theorem d_LX_advance_229 : decode M_LX_advance.2.1 229 = .ok (.getstatic 88, 3) := by decide +kernel
theorem d_LX_advance_232 : decode M_LX_advance.2.1 232 = .ok (.if_acmp .ne 7, 3) := by decide +kernel
theorem d_LX_advance_235 : decode M_LX_advance.2.1 235 = .ok (.iconst 1, 1) := by decide +kernel
theorem d_LX_advance_236 : decode M_LX_advance.2.1 236 = .ok (.goto 4, 3) := by decide +kernel
theorem d_LX_advance_239 : decode M_LX_advance.2.1 239 = .ok (.iconst 4, 1) := by decide +kernel
theorem d_LX_advance_240 : decode M_LX_advance.2.1 240 = .ok (.putfield 44, 3) := by decide +kernel
theorem d_LX_advance_243 : decode M_LX_advance.2.1 243 = .ok (.return_, 1) := by decide +kernel
theorem k_LX_advance : x_kV M_LX_advance "QuestionReader$Lexer" 0 := ⟨⟨by decide, Or.inl ⟨w_389, rfl⟩⟩, w_387, w_388, ⟨by decide, by decide⟩, by decide +kernel⟩
def B_NM_isSame_25   : Nat → Int32 → Int32 → Int32 → x_m → Option (Int32 × x_m)
  | 0, _, _, _, _ => none
  | f_ + 1, l1, l3, l4, m => (if l3 ≤ l4 then some (1, m) else (if x_ix ((l1 * 40) + l4) 1920 = true then (if x_ix ((m.1 3 2) + l4) 65536 = true then (if (m.2.1 6 ((l1 * 40) + l4).toNatClampNeg) = (m.2.1 2 ((m.1 3 2) + l4).toNatClampNeg) then (B_NM_isSame_25 f_) l1 l3 (l4 + 1) m else some (0, m)) else none) else none))
theorem b_NM_isSame_25 {G : x_G} {ex : Bool} {r : Int32 × x_m}   : ∀ (f_ : Nat) (l1 : Int32) (l3 : Int32) (l4 : Int32) (m : x_m), B_NM_isSame_25 f_ l1 l3 l4 m = some r → x_W G M_NM_isSame (x_rd 0) (x_Q G (x_rd 0) ex (x_pi r)) ex x_np (x_hp m) 0 0 [(0, .ref 5), (1, .int l1), (2, .ref 3), (3, .int l3), (4, .int l4)] [] 25 := by
  intro f_
  induction f_ with
  | zero => intro l1 l3 l4 m h; exact nomatch h
  | succ f_ ih =>
    intro l1 l3 l4 m h
    rw [B_NM_isSame_25] at h
    have hK25 := ih
    refine x_iload d_NM_isSame_25 rfl ?_
    refine x_iload_n d_NM_isSame_27 rfl rfl ?_
    refine x_icmp_ge (tgt := 69) d_NM_isSame_28 (by decide) (fun c_ => ?_) (fun c_ => ?_)
    · replace h := x_it h c_
      refine x_iconst (v := 1) d_NM_isSame_69 (by decide) ?_
      cases h
      exact x_ri d_NM_isSame_70 rfl rfl
    · replace h := x_ie h c_
      refine x_aload_n d_NM_isSame_31 rfl rfl ?_
      refine x_gC d_NM_isSame_32 (f_NM_11 rfl) sh_NM hp_NM rfl ?_
      refine x_iload_n d_NM_isSame_35 rfl rfl ?_
      refine x_bipush (v := 40) d_NM_isSame_36 (by decide) ?_
      refine x_imul d_NM_isSame_38 ?_
      refine x_iload d_NM_isSame_39 rfl ?_
      refine x_iadd d_NM_isSame_41 ?_
      obtain ⟨g_42, h⟩ := x_gd h
      refine x_lB d_NM_isSame_42 rfl sa_NM_letters ha_NM_letters g_42 ?_
      refine x_aload_n d_NM_isSame_43 rfl rfl ?_
      refine x_gC d_NM_isSame_44 (f_NM_28 rfl) sh_LX hp_LX rfl ?_
      refine x_gC d_NM_isSame_47 (f_NM_32 rfl) sh_TX hp_TX rfl ?_
      refine x_aload_n d_NM_isSame_50 rfl rfl ?_
      refine x_gI d_NM_isSame_51 (f_NM_25 rfl) sh_LX hp_LX rfl ?_
      refine x_iload d_NM_isSame_54 rfl ?_
      refine x_iadd d_NM_isSame_56 ?_
      obtain ⟨g_57, h⟩ := x_gd h
      refine x_lB d_NM_isSame_57 rfl sa_TX_bytes ha_TX_bytes g_57 ?_
      refine x_icmp_eq (tgt := 63) d_NM_isSame_58 (by decide) (fun c_ => ?_) (fun c_ => ?_)
      · replace h := x_it h c_
        refine x_iinc (v := l4 + 1) (lv2 := [(0, .ref 5), (1, .int l1), (2, .ref 3), (3, .int l3), (4, .int (l4 + 1))]) d_NM_isSame_63 rfl rfl (by decide) rfl ?_
        refine x_goto (tgt := 25) d_NM_isSame_66 (by decide) ?_
        exact hK25 _ _ _ _ h
      · replace h := x_ie h c_
        refine x_iconst (v := 0) d_NM_isSame_61 (by decide) ?_
        cases h
        exact x_ri d_NM_isSame_62 rfl rfl
def F_NM_isSame  (a1 : Int32) (m : x_m) : Option (Int32 × x_m) := (if x_ix a1 48 = true then (if (m.2.1 7 a1.toNatClampNeg) = ((m.1 3 3) - (m.1 3 2)) then B_NM_isSame_25 x_fu a1 ((m.1 3 3) - (m.1 3 2)) 0 m else some (0, m)) else none)
theorem c_NM_isSame {G : x_G} {ex : Bool} {r : Int32 × x_m}  {a1 : Int32} {m : x_m} (h : F_NM_isSame a1 m = some r) : x_R G M_NM_isSame (x_rd 0) ex [.ref 5, .int a1, .ref 3] x_np (x_hp m) (x_pi r) := by
  unfold F_NM_isSame at h
  show x_W G M_NM_isSame (x_rd 0) (x_Q G (x_rd 0) ex (x_pi r)) ex x_np (x_hp m) 0 0 [(0, .ref 5), (1, .int a1), (2, .ref 3)] [] 0
  refine x_aload_n d_NM_isSame_0 rfl rfl ?_
  refine x_gI d_NM_isSame_1 (f_NM_19 rfl) sh_LX hp_LX rfl ?_
  refine x_aload_n d_NM_isSame_4 rfl rfl ?_
  refine x_gI d_NM_isSame_5 (f_NM_25 rfl) sh_LX hp_LX rfl ?_
  refine x_isub d_NM_isSame_8 ?_
  refine x_istore_n (lv2 := [(0, .ref 5), (1, .int a1), (2, .ref 3), (3, .int ((m.1 3 3) - (m.1 3 2)))]) d_NM_isSame_9 rfl (by decide) rfl ?_
  refine x_aload_n d_NM_isSame_10 rfl rfl ?_
  refine x_gC d_NM_isSame_11 (f_NM_15 rfl) sh_NM hp_NM rfl ?_
  refine x_iload_n d_NM_isSame_14 rfl rfl ?_
  obtain ⟨g_15, h⟩ := x_gd h
  refine x_lI d_NM_isSame_15 rfl sa_NM_lengths ha_NM_lengths g_15 ?_
  refine x_iload_n d_NM_isSame_16 rfl rfl ?_
  refine x_icmp_eq (tgt := 22) d_NM_isSame_17 (by decide) (fun c_ => ?_) (fun c_ => ?_)
  · replace h := x_it h c_
    refine x_iconst (v := 0) d_NM_isSame_22 (by decide) ?_
    refine x_istore (lv2 := [(0, .ref 5), (1, .int a1), (2, .ref 3), (3, .int ((m.1 3 3) - (m.1 3 2))), (4, .int 0)]) d_NM_isSame_23 (by decide) rfl ?_
    exact b_NM_isSame_25 _ _ _ _ _ h
  · replace h := x_ie h c_
    refine x_iconst (v := 0) d_NM_isSame_20 (by decide) ?_
    cases h
    exact x_ri d_NM_isSame_21 rfl rfl
def B_NM_search_3   : Nat → Int32 → Int32 → Int32 → x_m → Option (Int32 × x_m)
  | 0, _, _, _, _ => none
  | f_ + 1, l1, l2, l4, m => (if l2 ≤ l4 then some ((-1), m) else ((F_NM_isSame (l1 + l4) m).bind fun r15 => (if r15.1 = 0 then (B_NM_search_3 f_) l1 l2 (l4 + 1) r15.2 else some (l4, r15.2))))
theorem b_NM_search_3 {G : x_G} {ex : Bool} {r : Int32 × x_m}   : ∀ (f_ : Nat) (l1 : Int32) (l2 : Int32) (l4 : Int32) (m : x_m), B_NM_search_3 f_ l1 l2 l4 m = some r → x_W G M_NM_search (x_rd 1) (x_Q G (x_rd 1) ex (x_pi r)) ex x_np (x_hp m) 0 0 [(0, .ref 5), (1, .int l1), (2, .int l2), (3, .ref 3), (4, .int l4)] [] 3 := by
  intro f_
  induction f_ with
  | zero => intro l1 l2 l4 m h; exact nomatch h
  | succ f_ ih =>
    intro l1 l2 l4 m h
    rw [B_NM_search_3] at h
    have hK3 := ih
    refine x_iload d_NM_search_3 rfl ?_
    refine x_iload_n d_NM_search_5 rfl rfl ?_
    refine x_icmp_ge (tgt := 30) d_NM_search_6 (by decide) (fun c_ => ?_) (fun c_ => ?_)
    · replace h := x_it h c_
      refine x_iconst (v := (-1)) d_NM_search_30 (by decide) ?_
      cases h
      exact x_ri d_NM_search_31 rfl rfl
    · replace h := x_ie h c_
      refine x_aload_n d_NM_search_9 rfl rfl ?_
      refine x_iload_n d_NM_search_10 rfl rfl ?_
      refine x_iload d_NM_search_11 rfl ?_
      refine x_iadd d_NM_search_13 ?_
      refine x_aload_n d_NM_search_14 rfl rfl ?_
      obtain ⟨r15, e15, h⟩ := x_bd h
      refine x_cVi (M2 := M_NM_isSame) (As := [.int (l1 + l4), .ref 3]) (st := []) d_NM_search_15 w_485 k_NM_isSame (c_NM_isSame e15) rfl sh_NM hp_NM rfl ⟨Nat.le_of_ble_eq_true rfl, Nat.le_of_ble_eq_true rfl⟩ (Nat.le_of_ble_eq_true rfl) (Nat.le_of_ble_eq_true rfl) rfl ?_
      refine x_if_eq (tgt := 24) d_NM_search_18 (by decide) (fun c_ => ?_) (fun c_ => ?_)
      · replace h := x_it h c_
        refine x_iinc (v := l4 + 1) (lv2 := [(0, .ref 5), (1, .int l1), (2, .int l2), (3, .ref 3), (4, .int (l4 + 1))]) d_NM_search_24 rfl rfl (by decide) rfl ?_
        refine x_goto (tgt := 3) d_NM_search_27 (by decide) ?_
        exact hK3 _ _ _ _ h
      · replace h := x_ie h c_
        refine x_iload d_NM_search_21 rfl ?_
        cases h
        exact x_ri d_NM_search_23 rfl rfl
def F_NM_search  (a1 : Int32) (a2 : Int32) (m : x_m) : Option (Int32 × x_m) := B_NM_search_3 x_fu a1 a2 0 m
theorem c_NM_search {G : x_G} {ex : Bool} {r : Int32 × x_m}  {a1 : Int32} {a2 : Int32} {m : x_m} (h : F_NM_search a1 a2 m = some r) : x_R G M_NM_search (x_rd 1) ex [.ref 5, .int a1, .int a2, .ref 3] x_np (x_hp m) (x_pi r) := by
  unfold F_NM_search at h
  show x_W G M_NM_search (x_rd 1) (x_Q G (x_rd 1) ex (x_pi r)) ex x_np (x_hp m) 0 0 [(0, .ref 5), (1, .int a1), (2, .int a2), (3, .ref 3)] [] 0
  refine x_iconst (v := 0) d_NM_search_0 (by decide) ?_
  refine x_istore (lv2 := [(0, .ref 5), (1, .int a1), (2, .int a2), (3, .ref 3), (4, .int 0)]) d_NM_search_1 (by decide) rfl ?_
  exact b_NM_search_3 _ _ _ _ _ h
def B_CT_isTaken_40   (s0 : Int32) (m : x_m) : Option (Int32 × x_m) := (if x_b1 s0 = true then some (s0, m) else none)
theorem b_CT_isTaken_40 {G : x_G} {ex : Bool} {r : Int32 × x_m}   {s0 : Int32} {m : x_m} (h : B_CT_isTaken_40 s0 m = some r) : x_W G M_CT_isTaken (x_rd 2) (x_Q G (x_rd 2) ex (x_pi r)) ex x_np (x_hp m) 0 0 [] [.int s0] 40 := by
  unfold B_CT_isTaken_40 at h
  obtain ⟨g_40, h⟩ := x_gd h
  cases h
  exact x_ri d_CT_isTaken_40 rfl (x_b1_ok g_40).1
def B_CT_isTaken_35    (m : x_m) : Option (Int32 × x_m) := B_CT_isTaken_40 1 m
theorem b_CT_isTaken_35 {G : x_G} {ex : Bool} {r : Int32 × x_m}    {m : x_m} (h : B_CT_isTaken_35 m = some r) : x_W G M_CT_isTaken (x_rd 2) (x_Q G (x_rd 2) ex (x_pi r)) ex x_np (x_hp m) 0 0 [] [] 35 := by
  unfold B_CT_isTaken_35 at h
  refine x_iconst (v := 1) d_CT_isTaken_35 (by decide) ?_
  refine x_goto (tgt := 40) d_CT_isTaken_36 (by decide) ?_
  exact b_CT_isTaken_40 h
def F_CT_isTaken   (m : x_m) : Option (Int32 × x_m) := ((F_NM_search 0 (m.1 4 2) m).bind fun r10 => (if r10.1 = ((-1)) then ((F_NM_search 40 (r10.2.1 4 3) r10.2).bind fun r28 => (if r28.1 = ((-1)) then B_CT_isTaken_40 0 r28.2 else B_CT_isTaken_35 r28.2)) else B_CT_isTaken_35 r10.2))
theorem c_CT_isTaken {G : x_G} {ex : Bool} {r : Int32 × x_m}   {m : x_m} (h : F_CT_isTaken m = some r) : x_R G M_CT_isTaken (x_rd 2) ex [.ref 4, .ref 3] x_np (x_hp m) (x_pi r) := by
  unfold F_CT_isTaken at h
  show x_W G M_CT_isTaken (x_rd 2) (x_Q G (x_rd 2) ex (x_pi r)) ex x_np (x_hp m) 0 0 [(0, .ref 4), (1, .ref 3)] [] 0
  refine x_aload_n d_CT_isTaken_0 rfl rfl ?_
  refine x_gC d_CT_isTaken_1 (f_CT_12 rfl) sh_CT hp_CT rfl ?_
  refine x_iconst (v := 0) d_CT_isTaken_4 (by decide) ?_
  refine x_aload_n d_CT_isTaken_5 rfl rfl ?_
  refine x_gI d_CT_isTaken_6 (f_CT_25 rfl) sh_CT hp_CT rfl ?_
  refine x_aload_n d_CT_isTaken_9 rfl rfl ?_
  obtain ⟨r10, e10, h⟩ := x_bd h
  refine x_cVi (M2 := M_NM_search) (As := [.int 0, .int (m.1 4 2), .ref 3]) (st := []) d_CT_isTaken_10 w_713 k_NM_search (c_NM_search e10) rfl sh_NM hp_NM rfl ⟨Nat.le_of_ble_eq_true rfl, Nat.le_of_ble_eq_true rfl⟩ (Nat.le_of_ble_eq_true rfl) (Nat.le_of_ble_eq_true rfl) rfl ?_
  refine x_iconst (v := (-1)) d_CT_isTaken_13 (by decide) ?_
  refine x_icmp_ne (tgt := 35) d_CT_isTaken_14 (by decide) (fun c_ => ?_) (fun c_ => ?_)
  · replace h := x_ie h c_
    refine x_sbk [] (lv2 := []) rfl ?_; exact b_CT_isTaken_35 h
  · replace h := x_it h c_
    refine x_aload_n d_CT_isTaken_17 rfl rfl ?_
    refine x_gC d_CT_isTaken_18 (f_CT_12 rfl) sh_CT hp_CT rfl ?_
    refine x_bipush (v := 40) d_CT_isTaken_21 (by decide) ?_
    refine x_aload_n d_CT_isTaken_23 rfl rfl ?_
    refine x_gI d_CT_isTaken_24 (f_CT_50 rfl) sh_CT hp_CT rfl ?_
    refine x_aload_n d_CT_isTaken_27 rfl rfl ?_
    obtain ⟨r28, e28, h⟩ := x_bd h
    refine x_cVi (M2 := M_NM_search) (As := [.int 40, .int (r10.2.1 4 3), .ref 3]) (st := []) d_CT_isTaken_28 w_713 k_NM_search (c_NM_search e28) rfl sh_NM hp_NM rfl ⟨Nat.le_of_ble_eq_true rfl, Nat.le_of_ble_eq_true rfl⟩ (Nat.le_of_ble_eq_true rfl) (Nat.le_of_ble_eq_true rfl) rfl ?_
    refine x_iconst (v := (-1)) d_CT_isTaken_31 (by decide) ?_
    refine x_icmp_eq (tgt := 39) d_CT_isTaken_32 (by decide) (fun c_ => ?_) (fun c_ => ?_)
    · replace h := x_it h c_
      refine x_iconst (v := 0) d_CT_isTaken_39 (by decide) ?_
      refine x_sbk [] (lv2 := []) rfl ?_; exact b_CT_isTaken_40 h
    · replace h := x_ie h c_
      refine x_sbk [] (lv2 := []) rfl ?_; exact b_CT_isTaken_35 h
def F_LX_tell  (a1 : Int32) (a2 : Int32) (m : x_m) : Option (Int32 × x_m) := some (0, x_wS (x_wS m 3 5 a1) 3 6 a2)
theorem c_LX_tell {G : x_G} {ex : Bool} {r : Int32 × x_m}  {a1 : Int32} {a2 : Int32} {m : x_m} (h : F_LX_tell a1 a2 m = some r) : x_R G M_LX_tell (x_rd 0) ex [.ref 3, .int a1, .int a2] x_np (x_hp m) (x_pi r) := by
  unfold F_LX_tell at h
  show x_W G M_LX_tell (x_rd 0) (x_Q G (x_rd 0) ex (x_pi r)) ex x_np (x_hp m) 0 0 [(0, .ref 3), (1, .int a1), (2, .int a2)] [] 0
  refine x_aload_n d_LX_tell_0 rfl rfl ?_
  refine x_iload_n d_LX_tell_1 rfl rfl ?_
  refine x_pI d_LX_tell_2 (f_LX_31 rfl) tb_LX rfl sh_LX hp_LX rfl ⟨rfl, rfl⟩ ?_
  refine x_aload_n d_LX_tell_5 rfl rfl ?_
  refine x_iload_n d_LX_tell_6 rfl rfl ?_
  refine x_pI d_LX_tell_7 (f_LX_20 rfl) tb_LX rfl sh_LX hp_LX rfl ⟨rfl, rfl⟩ ?_
  refine x_iconst (v := 0) d_LX_tell_10 (by decide) ?_
  cases h
  exact x_ri d_LX_tell_11 rfl rfl
def B_LX_atName_41   (s0 : Int32) (m : x_m) : Option (Int32 × x_m) := (if x_b1 s0 = true then some (s0, m) else none)
theorem b_LX_atName_41 {G : x_G} {ex : Bool} {r : Int32 × x_m}   {s0 : Int32} {m : x_m} (h : B_LX_atName_41 s0 m = some r) : x_W G M_LX_atName (x_rd 1) (x_Q G (x_rd 1) ex (x_pi r)) ex x_np (x_hp m) 0 0 [] [.int s0] 41 := by
  unfold B_LX_atName_41 at h
  obtain ⟨g_41, h⟩ := x_gd h
  cases h
  exact x_ri d_LX_atName_41 rfl (x_b1_ok g_41).1
def B_LX_atName_36    (m : x_m) : Option (Int32 × x_m) := B_LX_atName_41 1 m
theorem b_LX_atName_36 {G : x_G} {ex : Bool} {r : Int32 × x_m}    {m : x_m} (h : B_LX_atName_36 m = some r) : x_W G M_LX_atName (x_rd 1) (x_Q G (x_rd 1) ex (x_pi r)) ex x_np (x_hp m) 0 0 [] [] 36 := by
  unfold B_LX_atName_36 at h
  refine x_iconst (v := 1) d_LX_atName_36 (by decide) ?_
  refine x_goto (tgt := 41) d_LX_atName_37 (by decide) ?_
  exact b_LX_atName_41 h
def B_LX_atName_26   (s0 : Int32) (m : x_m) : Option (Int32 × x_m) := ((F_LX_tell s0 (m.1 3 2) m).bind fun r30 => (if r30.1 = 0 then B_LX_atName_41 0 r30.2 else B_LX_atName_36 r30.2))
theorem b_LX_atName_26 {G : x_G} {ex : Bool} {r : Int32 × x_m}   {s0 : Int32} {m : x_m} (h : B_LX_atName_26 s0 m = some r) : x_W G M_LX_atName (x_rd 1) (x_Q G (x_rd 1) ex (x_pi r)) ex x_np (x_hp m) 0 0 [(0, .ref 3)] [.int s0, .ref 3] 26 := by
  unfold B_LX_atName_26 at h
  refine x_aload_n d_LX_atName_26 rfl rfl ?_
  refine x_gI d_LX_atName_27 (f_LX_37 rfl) sh_LX hp_LX rfl ?_
  obtain ⟨r30, e30, h⟩ := x_bd h
  refine x_cVi (M2 := M_LX_tell) (As := [.int s0, .int (m.1 3 2)]) (st := []) d_LX_atName_30 w_438 k_LX_tell (c_LX_tell e30) rfl sh_LX hp_LX rfl ⟨Nat.le_of_ble_eq_true rfl, Nat.le_of_ble_eq_true rfl⟩ (Nat.le_of_ble_eq_true rfl) (Nat.le_of_ble_eq_true rfl) rfl ?_
  refine x_if_eq (tgt := 40) d_LX_atName_33 (by decide) (fun c_ => ?_) (fun c_ => ?_)
  · replace h := x_it h c_
    refine x_iconst (v := 0) d_LX_atName_40 (by decide) ?_
    refine x_sbk [] (lv2 := []) rfl ?_; exact b_LX_atName_41 h
  · replace h := x_ie h c_
    refine x_sbk [] (lv2 := []) rfl ?_; exact b_LX_atName_36 h
def F_LX_atName   (m : x_m) : Option (Int32 × x_m) := (if x_kv (m.2.2.1 3 1) = true then (if (m.2.2.1 3 1) = (x_N + 3) then B_LX_atName_36 m else (if (m.1 3 7) = 0 then B_LX_atName_26 (m.1 3 8) m else B_LX_atName_26 5 m)) else none)
theorem c_LX_atName {G : x_G} {ex : Bool} {r : Int32 × x_m}   {m : x_m} (h : F_LX_atName m = some r) : x_R G M_LX_atName (x_rd 1) ex [.ref 3] x_np (x_hp m) (x_pi r) := by
  unfold F_LX_atName at h
  show x_W G M_LX_atName (x_rd 1) (x_Q G (x_rd 1) ex (x_pi r)) ex x_np (x_hp m) 0 0 [(0, .ref 3)] [] 0
  refine x_aload_n d_LX_atName_0 rfl rfl ?_
  refine x_gR d_LX_atName_1 (f_LX_15 rfl) sh_LX hp_LX rfl ?_
  refine x_gets (i := 3) d_LX_atName_4 (by decide) w_403 ?_
  obtain ⟨g_7_0, h⟩ := x_gd h
  refine x_kacmp_eq (tgt := 36) d_LX_atName_7 (by decide) g_7_0 (x_kvN 3 (by decide)) (fun c_ => ?_) (fun c_ => ?_)
  · replace h := x_it h c_
    refine x_sbk [] (lv2 := []) rfl ?_; exact b_LX_atName_36 h
  · replace h := x_ie h c_
    refine x_aload_n d_LX_atName_10 rfl rfl ?_
    refine x_aload_n d_LX_atName_11 rfl rfl ?_
    refine x_gI d_LX_atName_12 (f_LX_40 rfl) sh_LX hp_LX rfl ?_
    refine x_if_eq (tgt := 22) d_LX_atName_15 (by decide) (fun c_ => ?_) (fun c_ => ?_)
    · replace h := x_it h c_
      refine x_aload_n d_LX_atName_22 rfl rfl ?_
      refine x_gI d_LX_atName_23 (f_LX_44 rfl) sh_LX hp_LX rfl ?_
      exact b_LX_atName_26 h
    · replace h := x_ie h c_
      refine x_iconst (v := 5) d_LX_atName_18 (by decide) ?_
      refine x_goto (tgt := 26) d_LX_atName_19 (by decide) ?_
      exact b_LX_atName_26 h
def F_LX_tellHere  (a1 : Int32) (m : x_m) : Option (Int32 × x_m) := ((F_LX_tell a1 (m.1 3 2) m).bind fun r6 => (if x_b1 r6.1 = true then some (r6.1, r6.2) else none))
theorem c_LX_tellHere {G : x_G} {ex : Bool} {r : Int32 × x_m}  {a1 : Int32} {m : x_m} (h : F_LX_tellHere a1 m = some r) : x_R G M_LX_tellHere (x_rd 1) ex [.ref 3, .int a1] x_np (x_hp m) (x_pi r) := by
  unfold F_LX_tellHere at h
  show x_W G M_LX_tellHere (x_rd 1) (x_Q G (x_rd 1) ex (x_pi r)) ex x_np (x_hp m) 0 0 [(0, .ref 3), (1, .int a1)] [] 0
  refine x_aload_n d_LX_tellHere_0 rfl rfl ?_
  refine x_iload_n d_LX_tellHere_1 rfl rfl ?_
  refine x_aload_n d_LX_tellHere_2 rfl rfl ?_
  refine x_gI d_LX_tellHere_3 (f_LX_37 rfl) sh_LX hp_LX rfl ?_
  obtain ⟨r6, e6, h⟩ := x_bd h
  refine x_cVi (M2 := M_LX_tell) (As := [.int a1, .int (m.1 3 2)]) (st := []) d_LX_tellHere_6 w_438 k_LX_tell (c_LX_tell e6) rfl sh_LX hp_LX rfl ⟨Nat.le_of_ble_eq_true rfl, Nat.le_of_ble_eq_true rfl⟩ (Nat.le_of_ble_eq_true rfl) (Nat.le_of_ble_eq_true rfl) rfl ?_
  obtain ⟨g_9, h⟩ := x_gd h
  cases h
  exact x_ri d_LX_tellHere_9 rfl (x_b1_ok g_9).1
def B_CG_atNewName_57   (s0 : Int32) (m : x_m) : Option (Int32 × x_m) := (if x_b1 s0 = true then some (s0, m) else none)
theorem b_CG_atNewName_57 {G : x_G} {ex : Bool} {r : Int32 × x_m}   {s0 : Int32} {m : x_m} (h : B_CG_atNewName_57 s0 m = some r) : x_W G M_CG_atNewName (x_rd 3) (x_Q G (x_rd 3) ex (x_pi r)) ex x_np (x_hp m) 0 0 [] [.int s0] 57 := by
  unfold B_CG_atNewName_57 at h
  obtain ⟨g_57, h⟩ := x_gd h
  cases h
  exact x_ri d_CG_atNewName_57 rfl (x_b1_ok g_57).1
def B_CG_atNewName_52    (m : x_m) : Option (Int32 × x_m) := B_CG_atNewName_57 1 m
theorem b_CG_atNewName_52 {G : x_G} {ex : Bool} {r : Int32 × x_m}    {m : x_m} (h : B_CG_atNewName_52 m = some r) : x_W G M_CG_atNewName (x_rd 3) (x_Q G (x_rd 3) ex (x_pi r)) ex x_np (x_hp m) 0 0 [] [] 52 := by
  unfold B_CG_atNewName_52 at h
  refine x_iconst (v := 1) d_CG_atNewName_52 (by decide) ?_
  refine x_goto (tgt := 57) d_CG_atNewName_53 (by decide) ?_
  exact b_CG_atNewName_57 h
def F_CG_atNewName  (a1 : Int32) (m : x_m) : Option (Int32 × x_m) := ((F_LX_atName m).bind fun r4 => (if r4.1 = 0 then some (0, r4.2) else ((F_CT_isTaken r4.2).bind fun r20 => (if r20.1 = 0 then (if a1 = 0 then B_CG_atNewName_52 r20.2 else ((F_LX_tellHere 7 r20.2).bind fun r46 => (if r46.1 = 0 then B_CG_atNewName_57 0 r46.2 else B_CG_atNewName_52 r46.2))) else ((F_LX_tellHere 6 r20.2).bind fun r32 => (if x_b1 r32.1 = true then some (r32.1, r32.2) else none))))))
theorem c_CG_atNewName {G : x_G} {ex : Bool} {r : Int32 × x_m}  {a1 : Int32} {m : x_m} (h : F_CG_atNewName a1 m = some r) : x_R G M_CG_atNewName (x_rd 3) ex [.ref 113, .int a1] x_np (x_hp m) (x_pi r) := by
  unfold F_CG_atNewName at h
  show x_W G M_CG_atNewName (x_rd 3) (x_Q G (x_rd 3) ex (x_pi r)) ex x_np (x_hp m) 0 0 [(0, .ref 113), (1, .int a1)] [] 0
  refine x_aload_n d_CG_atNewName_0 rfl rfl ?_
  refine x_gC d_CG_atNewName_1 (f_CG_9 rfl) sh_CG hp_CG rfl ?_
  obtain ⟨r4, e4, h⟩ := x_bd h
  refine x_cVi (M2 := M_LX_atName) (As := []) (st := []) d_CG_atNewName_4 w_708 k_LX_atName (c_LX_atName e4) rfl sh_LX hp_LX rfl ⟨Nat.le_of_ble_eq_true rfl, Nat.le_of_ble_eq_true rfl⟩ (Nat.le_of_ble_eq_true rfl) (Nat.le_of_ble_eq_true rfl) rfl ?_
  refine x_if_ne (tgt := 12) d_CG_atNewName_7 (by decide) (fun c_ => ?_) (fun c_ => ?_)
  · replace h := x_ie h c_
    refine x_aload_n d_CG_atNewName_12 rfl rfl ?_
    refine x_gC d_CG_atNewName_13 (f_CG_15 rfl) sh_CG hp_CG rfl ?_
    refine x_aload_n d_CG_atNewName_16 rfl rfl ?_
    refine x_gC d_CG_atNewName_17 (f_CG_9 rfl) sh_CG hp_CG rfl ?_
    obtain ⟨r20, e20, h⟩ := x_bd h
    refine x_cVi (M2 := M_CT_isTaken) (As := [.ref 3]) (st := []) d_CG_atNewName_20 w_709 k_CT_isTaken (c_CT_isTaken e20) rfl sh_CT hp_CT rfl ⟨Nat.le_of_ble_eq_true rfl, Nat.le_of_ble_eq_true rfl⟩ (Nat.le_of_ble_eq_true rfl) (Nat.le_of_ble_eq_true rfl) rfl ?_
    refine x_if_eq (tgt := 36) d_CG_atNewName_23 (by decide) (fun c_ => ?_) (fun c_ => ?_)
    · replace h := x_it h c_
      refine x_iload_n d_CG_atNewName_36 rfl rfl ?_
      refine x_if_eq (tgt := 52) d_CG_atNewName_37 (by decide) (fun c_ => ?_) (fun c_ => ?_)
      · replace h := x_it h c_
        refine x_sbk [] (lv2 := []) rfl ?_; exact b_CG_atNewName_52 h
      · replace h := x_ie h c_
        refine x_aload_n d_CG_atNewName_40 rfl rfl ?_
        refine x_gC d_CG_atNewName_41 (f_CG_9 rfl) sh_CG hp_CG rfl ?_
        refine x_bipush (v := 7) d_CG_atNewName_44 (by decide) ?_
        obtain ⟨r46, e46, h⟩ := x_bd h
        refine x_cVi (M2 := M_LX_tellHere) (As := [.int 7]) (st := []) d_CG_atNewName_46 w_698 k_LX_tellHere (c_LX_tellHere e46) rfl sh_LX hp_LX rfl ⟨Nat.le_of_ble_eq_true rfl, Nat.le_of_ble_eq_true rfl⟩ (Nat.le_of_ble_eq_true rfl) (Nat.le_of_ble_eq_true rfl) rfl ?_
        refine x_if_eq (tgt := 56) d_CG_atNewName_49 (by decide) (fun c_ => ?_) (fun c_ => ?_)
        · replace h := x_it h c_
          refine x_iconst (v := 0) d_CG_atNewName_56 (by decide) ?_
          refine x_sbk [] (lv2 := []) rfl ?_; exact b_CG_atNewName_57 h
        · replace h := x_ie h c_
          refine x_sbk [] (lv2 := []) rfl ?_; exact b_CG_atNewName_52 h
    · replace h := x_ie h c_
      refine x_aload_n d_CG_atNewName_26 rfl rfl ?_
      refine x_gC d_CG_atNewName_27 (f_CG_9 rfl) sh_CG hp_CG rfl ?_
      refine x_bipush (v := 6) d_CG_atNewName_30 (by decide) ?_
      obtain ⟨r32, e32, h⟩ := x_bd h
      refine x_cVi (M2 := M_LX_tellHere) (As := [.int 6]) (st := []) d_CG_atNewName_32 w_698 k_LX_tellHere (c_LX_tellHere e32) rfl sh_LX hp_LX rfl ⟨Nat.le_of_ble_eq_true rfl, Nat.le_of_ble_eq_true rfl⟩ (Nat.le_of_ble_eq_true rfl) (Nat.le_of_ble_eq_true rfl) rfl ?_
      obtain ⟨g_35, h⟩ := x_gd h
      cases h
      exact x_ri d_CG_atNewName_35 rfl (x_b1_ok g_35).1
  · replace h := x_it h c_
    refine x_iconst (v := 0) d_CG_atNewName_10 (by decide) ?_
    cases h
    exact x_ri d_CG_atNewName_11 rfl rfl
def B_CG_atNewLevel_61   (s0 : Int32) (m : x_m) : Option (Int32 × x_m) := (if x_b1 s0 = true then some (s0, m) else none)
theorem b_CG_atNewLevel_61 {G : x_G} {ex : Bool} {r : Int32 × x_m}   {s0 : Int32} {m : x_m} (h : B_CG_atNewLevel_61 s0 m = some r) : x_W G M_CG_atNewLevel (x_rd 2) (x_Q G (x_rd 2) ex (x_pi r)) ex x_np (x_hp m) 0 0 [] [.int s0] 61 := by
  unfold B_CG_atNewLevel_61 at h
  obtain ⟨g_61, h⟩ := x_gd h
  cases h
  exact x_ri d_CG_atNewLevel_61 rfl (x_b1_ok g_61).1
def B_CG_atNewLevel_56    (m : x_m) : Option (Int32 × x_m) := B_CG_atNewLevel_61 1 m
theorem b_CG_atNewLevel_56 {G : x_G} {ex : Bool} {r : Int32 × x_m}    {m : x_m} (h : B_CG_atNewLevel_56 m = some r) : x_W G M_CG_atNewLevel (x_rd 2) (x_Q G (x_rd 2) ex (x_pi r)) ex x_np (x_hp m) 0 0 [] [] 56 := by
  unfold B_CG_atNewLevel_56 at h
  refine x_iconst (v := 1) d_CG_atNewLevel_56 (by decide) ?_
  refine x_goto (tgt := 61) d_CG_atNewLevel_57 (by decide) ?_
  exact b_CG_atNewLevel_61 h
def F_CG_atNewLevel  (a1 : Int32) (a2 : Int32) (m : x_m) : Option (Int32 × x_m) := ((F_LX_atName m).bind fun r4 => (if r4.1 = 0 then some (0, r4.2) else ((F_NM_search a1 a2 r4.2).bind fun r22 => (if r22.1 = ((-1)) then (if a2 < 4 then B_CG_atNewLevel_56 r22.2 else ((F_LX_tellHere 7 r22.2).bind fun r50 => (if r50.1 = 0 then B_CG_atNewLevel_61 0 r50.2 else B_CG_atNewLevel_56 r50.2))) else ((F_LX_tellHere 6 r22.2).bind fun r35 => (if x_b1 r35.1 = true then some (r35.1, r35.2) else none))))))
theorem c_CG_atNewLevel {G : x_G} {ex : Bool} {r : Int32 × x_m}  {a1 : Int32} {a2 : Int32} {m : x_m} (h : F_CG_atNewLevel a1 a2 m = some r) : x_R G M_CG_atNewLevel (x_rd 2) ex [.ref 113, .int a1, .int a2] x_np (x_hp m) (x_pi r) := by
  unfold F_CG_atNewLevel at h
  show x_W G M_CG_atNewLevel (x_rd 2) (x_Q G (x_rd 2) ex (x_pi r)) ex x_np (x_hp m) 0 0 [(0, .ref 113), (1, .int a1), (2, .int a2)] [] 0
  refine x_aload_n d_CG_atNewLevel_0 rfl rfl ?_
  refine x_gC d_CG_atNewLevel_1 (f_CG_9 rfl) sh_CG hp_CG rfl ?_
  obtain ⟨r4, e4, h⟩ := x_bd h
  refine x_cVi (M2 := M_LX_atName) (As := []) (st := []) d_CG_atNewLevel_4 w_708 k_LX_atName (c_LX_atName e4) rfl sh_LX hp_LX rfl ⟨Nat.le_of_ble_eq_true rfl, Nat.le_of_ble_eq_true rfl⟩ (Nat.le_of_ble_eq_true rfl) (Nat.le_of_ble_eq_true rfl) rfl ?_
  refine x_if_ne (tgt := 12) d_CG_atNewLevel_7 (by decide) (fun c_ => ?_) (fun c_ => ?_)
  · replace h := x_ie h c_
    refine x_aload_n d_CG_atNewLevel_12 rfl rfl ?_
    refine x_gC d_CG_atNewLevel_13 (f_CG_25 rfl) sh_CG hp_CG rfl ?_
    refine x_iload_n d_CG_atNewLevel_16 rfl rfl ?_
    refine x_iload_n d_CG_atNewLevel_17 rfl rfl ?_
    refine x_aload_n d_CG_atNewLevel_18 rfl rfl ?_
    refine x_gC d_CG_atNewLevel_19 (f_CG_9 rfl) sh_CG hp_CG rfl ?_
    obtain ⟨r22, e22, h⟩ := x_bd h
    refine x_cVi (M2 := M_NM_search) (As := [.int a1, .int a2, .ref 3]) (st := []) d_CG_atNewLevel_22 w_732 k_NM_search (c_NM_search e22) rfl sh_NM hp_NM rfl ⟨Nat.le_of_ble_eq_true rfl, Nat.le_of_ble_eq_true rfl⟩ (Nat.le_of_ble_eq_true rfl) (Nat.le_of_ble_eq_true rfl) rfl ?_
    refine x_iconst (v := (-1)) d_CG_atNewLevel_25 (by decide) ?_
    refine x_icmp_eq (tgt := 39) d_CG_atNewLevel_26 (by decide) (fun c_ => ?_) (fun c_ => ?_)
    · replace h := x_it h c_
      refine x_iload_n d_CG_atNewLevel_39 rfl rfl ?_
      refine x_iconst (v := 4) d_CG_atNewLevel_40 (by decide) ?_
      refine x_icmp_lt (tgt := 56) d_CG_atNewLevel_41 (by decide) (fun c_ => ?_) (fun c_ => ?_)
      · replace h := x_it h c_
        refine x_sbk [] (lv2 := []) rfl ?_; exact b_CG_atNewLevel_56 h
      · replace h := x_ie h c_
        refine x_aload_n d_CG_atNewLevel_44 rfl rfl ?_
        refine x_gC d_CG_atNewLevel_45 (f_CG_9 rfl) sh_CG hp_CG rfl ?_
        refine x_bipush (v := 7) d_CG_atNewLevel_48 (by decide) ?_
        obtain ⟨r50, e50, h⟩ := x_bd h
        refine x_cVi (M2 := M_LX_tellHere) (As := [.int 7]) (st := []) d_CG_atNewLevel_50 w_698 k_LX_tellHere (c_LX_tellHere e50) rfl sh_LX hp_LX rfl ⟨Nat.le_of_ble_eq_true rfl, Nat.le_of_ble_eq_true rfl⟩ (Nat.le_of_ble_eq_true rfl) (Nat.le_of_ble_eq_true rfl) rfl ?_
        refine x_if_eq (tgt := 60) d_CG_atNewLevel_53 (by decide) (fun c_ => ?_) (fun c_ => ?_)
        · replace h := x_it h c_
          refine x_iconst (v := 0) d_CG_atNewLevel_60 (by decide) ?_
          refine x_sbk [] (lv2 := []) rfl ?_; exact b_CG_atNewLevel_61 h
        · replace h := x_ie h c_
          refine x_sbk [] (lv2 := []) rfl ?_; exact b_CG_atNewLevel_56 h
    · replace h := x_ie h c_
      refine x_aload_n d_CG_atNewLevel_29 rfl rfl ?_
      refine x_gC d_CG_atNewLevel_30 (f_CG_9 rfl) sh_CG hp_CG rfl ?_
      refine x_bipush (v := 6) d_CG_atNewLevel_33 (by decide) ?_
      obtain ⟨r35, e35, h⟩ := x_bd h
      refine x_cVi (M2 := M_LX_tellHere) (As := [.int 6]) (st := []) d_CG_atNewLevel_35 w_698 k_LX_tellHere (c_LX_tellHere e35) rfl sh_LX hp_LX rfl ⟨Nat.le_of_ble_eq_true rfl, Nat.le_of_ble_eq_true rfl⟩ (Nat.le_of_ble_eq_true rfl) (Nat.le_of_ble_eq_true rfl) rfl ?_
      obtain ⟨g_38, h⟩ := x_gd h
      cases h
      exact x_ri d_CG_atNewLevel_38 rfl (x_b1_ok g_38).1
  · replace h := x_it h c_
    refine x_iconst (v := 0) d_CG_atNewLevel_10 (by decide) ?_
    cases h
    exact x_ri d_CG_atNewLevel_11 rfl rfl
def F_CT_columnNumber  (a0 : Int32) (a1 : Int32) (m : x_m) : Option (Int32 × x_m) := some ((a0 * 4) + a1, m)
theorem c_CT_columnNumber {G : x_G} {ex : Bool} {r : Int32 × x_m}  {a0 : Int32} {a1 : Int32} {m : x_m} (h : F_CT_columnNumber a0 a1 m = some r) : x_R G M_CT_columnNumber (x_rd 0) ex [.int a0, .int a1] x_np (x_hp m) (x_pi r) := by
  unfold F_CT_columnNumber at h
  show x_W G M_CT_columnNumber (x_rd 0) (x_Q G (x_rd 0) ex (x_pi r)) ex x_np (x_hp m) 0 0 [(0, .int a0), (1, .int a1)] [] 0
  refine x_iload_n d_CT_columnNumber_0 rfl rfl ?_
  refine x_iconst (v := 4) d_CT_columnNumber_1 (by decide) ?_
  refine x_imul d_CT_columnNumber_2 ?_
  refine x_iload_n d_CT_columnNumber_3 rfl rfl ?_
  refine x_iadd d_CT_columnNumber_4 ?_
  cases h
  exact x_ri d_CT_columnNumber_5 rfl rfl
def B_KD_spelled_41   (l2 : Nat) (m : x_m) : Option (Nat × x_m) := some (l2, m)
theorem b_KD_spelled_41 {G : x_G} {ex : Bool} {r : Nat × x_m}   {l2 : Nat} {m : x_m} (h : B_KD_spelled_41 l2 m = some r) : x_W G M_KD_spelled (x_rd 0) (x_Q G (x_rd 0) ex (x_pr r)) ex x_np (x_hp m) 0 0 [(2, .ref l2)] [] 41 := by
  unfold B_KD_spelled_41 at h
  refine x_aload_n d_KD_spelled_41 rfl rfl ?_
  cases h
  exact x_rr d_KD_spelled_42 rfl (Or.inl ⟨_, rfl⟩)
def B_KD_spelled_8   : Nat → Int64 → Nat → Int32 → x_m → Option (Nat × x_m)
  | 0, _, _, _, _ => none
  | f_ + 1, l0, l2, l3, m => (if 36 ≤ l3 then B_KD_spelled_41 l2 m else (if x_ix l3 36 = true then (if x_kv (x_N + l3.toNatClampNeg) = true then (if (lg_cmp (x_kk.getD (x_N + l3.toNatClampNeg - x_N) 0) l0) = 0 then (if x_ix l3 36 = true then some (x_N + l3.toNatClampNeg, m) else none) else (B_KD_spelled_8 f_) l0 l2 (l3 + 1) m) else none) else none))
theorem b_KD_spelled_8 {G : x_G} {ex : Bool} {r : Nat × x_m}   : ∀ (f_ : Nat) (l0 : Int64) (l2 : Nat) (l3 : Int32) (m : x_m), B_KD_spelled_8 f_ l0 l2 l3 m = some r → x_W G M_KD_spelled (x_rd 0) (x_Q G (x_rd 0) ex (x_pr r)) ex x_np (x_hp m) 0 0 [(0, .long l0), (2, .ref l2), (3, .int l3)] [] 8 := by
  intro f_
  induction f_ with
  | zero => intro l0 l2 l3 m h; exact nomatch h
  | succ f_ ih =>
    intro l0 l2 l3 m h
    rw [B_KD_spelled_8] at h
    have hK8 := ih
    refine x_iload_n d_KD_spelled_8 rfl rfl ?_
    refine x_getsA d_KD_spelled_9 w_408 ?_
    refine x_alenA d_KD_spelled_12 ?_
    refine x_icmp_ge (tgt := 41) d_KD_spelled_13 (by decide) (fun c_ => ?_) (fun c_ => ?_)
    · replace h := x_it h c_
      refine x_sbk [1] (lv2 := [(2, .ref l2)]) rfl ?_; exact b_KD_spelled_41 h
    · replace h := x_ie h c_
      refine x_getsA d_KD_spelled_16 w_408 ?_
      refine x_iload_n d_KD_spelled_19 rfl rfl ?_
      obtain ⟨g_20, h⟩ := x_gd h
      refine x_aaldK d_KD_spelled_20 g_20 ?_
      obtain ⟨g_21, h⟩ := x_gd h
      refine x_gKey d_KD_spelled_21 w_1517 g_21 ?_
      refine x_lload_n d_KD_spelled_24 rfl rfl ?_
      refine x_lcmp d_KD_spelled_25 ?_
      refine x_if_ne (tgt := 35) d_KD_spelled_26 (by decide) (fun c_ => ?_) (fun c_ => ?_)
      · replace h := x_ie h c_
        refine x_iinc (v := l3 + 1) (lv2 := [(0, .long l0), (2, .ref l2), (3, .int (l3 + 1))]) d_KD_spelled_35 rfl rfl (by decide) rfl ?_
        refine x_goto (tgt := 8) d_KD_spelled_38 (by decide) ?_
        exact hK8 _ _ _ _ h
      · replace h := x_it h c_
        refine x_getsA d_KD_spelled_29 w_408 ?_
        refine x_iload_n d_KD_spelled_32 rfl rfl ?_
        obtain ⟨g_33, h⟩ := x_gd h
        refine x_aaldK d_KD_spelled_33 g_33 ?_
        cases h
        exact x_rr d_KD_spelled_34 rfl (Or.inl ⟨_, rfl⟩)
def F_KD_spelled  (a0 : Int64) (a2 : Nat) (m : x_m) : Option (Nat × x_m) := (if (lg_cmp a0 0) ≤ 0 then B_KD_spelled_41 a2 m else B_KD_spelled_8 x_fu a0 a2 0 m)
theorem c_KD_spelled {G : x_G} {ex : Bool} {r : Nat × x_m}  {a0 : Int64} {a2 : Nat} {m : x_m} (h : F_KD_spelled a0 a2 m = some r) : x_R G M_KD_spelled (x_rd 0) ex [.long a0, .ref a2] x_np (x_hp m) (x_pr r) := by
  unfold F_KD_spelled at h
  show x_W G M_KD_spelled (x_rd 0) (x_Q G (x_rd 0) ex (x_pr r)) ex x_np (x_hp m) 0 0 [(0, .long a0), (2, .ref a2)] [] 0
  refine x_lload_n d_KD_spelled_0 rfl rfl ?_
  refine x_lconst (v := 0) d_KD_spelled_1 (by decide) ?_
  refine x_lcmp d_KD_spelled_2 ?_
  refine x_if_le (tgt := 41) d_KD_spelled_3 (by decide) (fun c_ => ?_) (fun c_ => ?_)
  · replace h := x_it h c_
    refine x_sbk [1] (lv2 := [(2, .ref a2)]) rfl ?_; exact b_KD_spelled_41 h
  · replace h := x_ie h c_
    refine x_iconst (v := 0) d_KD_spelled_6 (by decide) ?_
    refine x_istore_n (lv2 := [(0, .long a0), (2, .ref a2), (3, .int 0)]) d_KD_spelled_7 rfl (by decide) rfl ?_
    exact b_KD_spelled_8 _ _ _ _ _ h
def B_LX_isDigit_44   (s0 : Int32) (m : x_m) : Option (Int32 × x_m) := (if x_b1 s0 = true then some (s0, m) else none)
theorem b_LX_isDigit_44 {G : x_G} {ex : Bool} {r : Int32 × x_m}   {s0 : Int32} {m : x_m} (h : B_LX_isDigit_44 s0 m = some r) : x_W G M_LX_isDigit (x_rd 0) (x_Q G (x_rd 0) ex (x_pi r)) ex x_np (x_hp m) 0 0 [] [.int s0] 44 := by
  unfold B_LX_isDigit_44 at h
  obtain ⟨g_44, h⟩ := x_gd h
  cases h
  exact x_ri d_LX_isDigit_44 rfl (x_b1_ok g_44).1
def B_LX_isDigit_43    (m : x_m) : Option (Int32 × x_m) := B_LX_isDigit_44 0 m
theorem b_LX_isDigit_43 {G : x_G} {ex : Bool} {r : Int32 × x_m}    {m : x_m} (h : B_LX_isDigit_43 m = some r) : x_W G M_LX_isDigit (x_rd 0) (x_Q G (x_rd 0) ex (x_pi r)) ex x_np (x_hp m) 0 0 [] [] 43 := by
  unfold B_LX_isDigit_43 at h
  refine x_iconst (v := 0) d_LX_isDigit_43 (by decide) ?_
  exact b_LX_isDigit_44 h
def F_LX_isDigit  (a1 : Int32) (m : x_m) : Option (Int32 × x_m) := (if (m.1 1 1) ≤ a1 then B_LX_isDigit_43 m else (if x_ix a1 65536 = true then (if (m.2.1 2 a1.toNatClampNeg) < 48 then B_LX_isDigit_43 m else (if x_ix a1 65536 = true then (if 57 < (m.2.1 2 a1.toNatClampNeg) then B_LX_isDigit_43 m else B_LX_isDigit_44 1 m) else none)) else none))
theorem c_LX_isDigit {G : x_G} {ex : Bool} {r : Int32 × x_m}  {a1 : Int32} {m : x_m} (h : F_LX_isDigit a1 m = some r) : x_R G M_LX_isDigit (x_rd 0) ex [.ref 3, .int a1] x_np (x_hp m) (x_pi r) := by
  unfold F_LX_isDigit at h
  show x_W G M_LX_isDigit (x_rd 0) (x_Q G (x_rd 0) ex (x_pi r)) ex x_np (x_hp m) 0 0 [(0, .ref 3), (1, .int a1)] [] 0
  refine x_iload_n d_LX_isDigit_0 rfl rfl ?_
  refine x_aload_n d_LX_isDigit_1 rfl rfl ?_
  refine x_gC d_LX_isDigit_2 (f_LX_24 rfl) sh_LX hp_LX rfl ?_
  refine x_gI d_LX_isDigit_5 (f_LX_47 rfl) sh_TX hp_TX rfl ?_
  refine x_icmp_ge (tgt := 43) d_LX_isDigit_8 (by decide) (fun c_ => ?_) (fun c_ => ?_)
  · replace h := x_it h c_
    refine x_sbk [] (lv2 := []) rfl ?_; exact b_LX_isDigit_43 h
  · replace h := x_ie h c_
    refine x_aload_n d_LX_isDigit_11 rfl rfl ?_
    refine x_gC d_LX_isDigit_12 (f_LX_24 rfl) sh_LX hp_LX rfl ?_
    refine x_gC d_LX_isDigit_15 (f_LX_52 rfl) sh_TX hp_TX rfl ?_
    refine x_iload_n d_LX_isDigit_18 rfl rfl ?_
    obtain ⟨g_19, h⟩ := x_gd h
    refine x_lB d_LX_isDigit_19 rfl sa_TX_bytes ha_TX_bytes g_19 ?_
    refine x_bipush (v := 48) d_LX_isDigit_20 (by decide) ?_
    refine x_icmp_lt (tgt := 43) d_LX_isDigit_22 (by decide) (fun c_ => ?_) (fun c_ => ?_)
    · replace h := x_it h c_
      refine x_sbk [] (lv2 := []) rfl ?_; exact b_LX_isDigit_43 h
    · replace h := x_ie h c_
      refine x_aload_n d_LX_isDigit_25 rfl rfl ?_
      refine x_gC d_LX_isDigit_26 (f_LX_24 rfl) sh_LX hp_LX rfl ?_
      refine x_gC d_LX_isDigit_29 (f_LX_52 rfl) sh_TX hp_TX rfl ?_
      refine x_iload_n d_LX_isDigit_32 rfl rfl ?_
      obtain ⟨g_33, h⟩ := x_gd h
      refine x_lB d_LX_isDigit_33 rfl sa_TX_bytes ha_TX_bytes g_33 ?_
      refine x_bipush (v := 57) d_LX_isDigit_34 (by decide) ?_
      refine x_icmp_gt (tgt := 43) d_LX_isDigit_36 (by decide) (fun c_ => ?_) (fun c_ => ?_)
      · replace h := x_it h c_
        refine x_sbk [] (lv2 := []) rfl ?_; exact b_LX_isDigit_43 h
      · replace h := x_ie h c_
        refine x_iconst (v := 1) d_LX_isDigit_39 (by decide) ?_
        refine x_goto (tgt := 44) d_LX_isDigit_40 (by decide) ?_
        refine x_sbk [] (lv2 := []) rfl ?_; exact b_LX_isDigit_44 h
def B_LX_isLetter_29   (s0 : Int32) (m : x_m) : Option (Int32 × x_m) := (if x_b1 s0 = true then some (s0, m) else none)
theorem b_LX_isLetter_29 {G : x_G} {ex : Bool} {r : Int32 × x_m}   {s0 : Int32} {m : x_m} (h : B_LX_isLetter_29 s0 m = some r) : x_W G M_LX_isLetter (x_rd 0) (x_Q G (x_rd 0) ex (x_pi r)) ex x_np (x_hp m) 0 0 [] [.int s0] 29 := by
  unfold B_LX_isLetter_29 at h
  obtain ⟨g_29, h⟩ := x_gd h
  cases h
  exact x_ri d_LX_isLetter_29 rfl (x_b1_ok g_29).1
def B_LX_isLetter_28    (m : x_m) : Option (Int32 × x_m) := B_LX_isLetter_29 0 m
theorem b_LX_isLetter_28 {G : x_G} {ex : Bool} {r : Int32 × x_m}    {m : x_m} (h : B_LX_isLetter_28 m = some r) : x_W G M_LX_isLetter (x_rd 0) (x_Q G (x_rd 0) ex (x_pi r)) ex x_np (x_hp m) 0 0 [] [] 28 := by
  unfold B_LX_isLetter_28 at h
  refine x_iconst (v := 0) d_LX_isLetter_28 (by decide) ?_
  exact b_LX_isLetter_29 h
def B_LX_isLetter_24    (m : x_m) : Option (Int32 × x_m) := B_LX_isLetter_29 1 m
theorem b_LX_isLetter_24 {G : x_G} {ex : Bool} {r : Int32 × x_m}    {m : x_m} (h : B_LX_isLetter_24 m = some r) : x_W G M_LX_isLetter (x_rd 0) (x_Q G (x_rd 0) ex (x_pi r)) ex x_np (x_hp m) 0 0 [] [] 24 := by
  unfold B_LX_isLetter_24 at h
  refine x_iconst (v := 1) d_LX_isLetter_24 (by decide) ?_
  refine x_goto (tgt := 29) d_LX_isLetter_25 (by decide) ?_
  exact b_LX_isLetter_29 h
def B_LX_isLetter_12   (l0 : Int32) (m : x_m) : Option (Int32 × x_m) := (if l0 < 65 then B_LX_isLetter_28 m else (if 90 < l0 then B_LX_isLetter_28 m else B_LX_isLetter_24 m))
theorem b_LX_isLetter_12 {G : x_G} {ex : Bool} {r : Int32 × x_m}   {l0 : Int32} {m : x_m} (h : B_LX_isLetter_12 l0 m = some r) : x_W G M_LX_isLetter (x_rd 0) (x_Q G (x_rd 0) ex (x_pi r)) ex x_np (x_hp m) 0 0 [(0, .int l0)] [] 12 := by
  unfold B_LX_isLetter_12 at h
  refine x_iload_n d_LX_isLetter_12 rfl rfl ?_
  refine x_bipush (v := 65) d_LX_isLetter_13 (by decide) ?_
  refine x_icmp_lt (tgt := 28) d_LX_isLetter_15 (by decide) (fun c_ => ?_) (fun c_ => ?_)
  · replace h := x_it h c_
    refine x_sbk [] (lv2 := []) rfl ?_; exact b_LX_isLetter_28 h
  · replace h := x_ie h c_
    refine x_iload_n d_LX_isLetter_18 rfl rfl ?_
    refine x_bipush (v := 90) d_LX_isLetter_19 (by decide) ?_
    refine x_icmp_gt (tgt := 28) d_LX_isLetter_21 (by decide) (fun c_ => ?_) (fun c_ => ?_)
    · replace h := x_it h c_
      refine x_sbk [] (lv2 := []) rfl ?_; exact b_LX_isLetter_28 h
    · replace h := x_ie h c_
      refine x_sbk [] (lv2 := []) rfl ?_; exact b_LX_isLetter_24 h
def F_LX_isLetter  (a0 : Int32) (m : x_m) : Option (Int32 × x_m) := (if a0 < 97 then B_LX_isLetter_12 a0 m else (if a0 ≤ 122 then B_LX_isLetter_24 m else B_LX_isLetter_12 a0 m))
theorem c_LX_isLetter {G : x_G} {ex : Bool} {r : Int32 × x_m}  {a0 : Int32} {m : x_m} (h : F_LX_isLetter a0 m = some r) : x_R G M_LX_isLetter (x_rd 0) ex [.int a0] x_np (x_hp m) (x_pi r) := by
  unfold F_LX_isLetter at h
  show x_W G M_LX_isLetter (x_rd 0) (x_Q G (x_rd 0) ex (x_pi r)) ex x_np (x_hp m) 0 0 [(0, .int a0)] [] 0
  refine x_iload_n d_LX_isLetter_0 rfl rfl ?_
  refine x_bipush (v := 97) d_LX_isLetter_1 (by decide) ?_
  refine x_icmp_lt (tgt := 12) d_LX_isLetter_3 (by decide) (fun c_ => ?_) (fun c_ => ?_)
  · replace h := x_it h c_
    exact b_LX_isLetter_12 h
  · replace h := x_ie h c_
    refine x_iload_n d_LX_isLetter_6 rfl rfl ?_
    refine x_bipush (v := 122) d_LX_isLetter_7 (by decide) ?_
    refine x_icmp_le (tgt := 24) d_LX_isLetter_9 (by decide) (fun c_ => ?_) (fun c_ => ?_)
    · replace h := x_it h c_
      refine x_sbk [] (lv2 := []) rfl ?_; exact b_LX_isLetter_24 h
    · replace h := x_ie h c_
      exact b_LX_isLetter_12 h
def B_LX_scanNumber_131   (s0 : Int64) (m : x_m) : Option (Int64 × x_m) := some (s0, m)
theorem b_LX_scanNumber_131 {G : x_G} {ex : Bool} {r : Int64 × x_m}   {s0 : Int64} {m : x_m} (h : B_LX_scanNumber_131 s0 m = some r) : x_W G M_LX_scanNumber (x_rd 0) (x_Q G (x_rd 0) ex (x_pj r)) ex x_np (x_hp m) 0 0 [] [.long s0] 131 := by
  unfold B_LX_scanNumber_131 at h
  cases h
  exact x_rj d_LX_scanNumber_131 rfl
def B_LX_scanNumber_121   (l1 : Int32) (l2 : Int64) (m : x_m) : Option (Int64 × x_m) := (if l1 = 0 then B_LX_scanNumber_131 l2 m else B_LX_scanNumber_131 (-l2) m)
theorem b_LX_scanNumber_121 {G : x_G} {ex : Bool} {r : Int64 × x_m}   {l1 : Int32} {l2 : Int64} {m : x_m} (h : B_LX_scanNumber_121 l1 l2 m = some r) : x_W G M_LX_scanNumber (x_rd 0) (x_Q G (x_rd 0) ex (x_pj r)) ex x_np (x_hp m) 0 0 [(1, .int l1), (2, .long l2)] [] 121 := by
  unfold B_LX_scanNumber_121 at h
  refine x_iload_n d_LX_scanNumber_121 rfl rfl ?_
  refine x_if_eq (tgt := 130) d_LX_scanNumber_122 (by decide) (fun c_ => ?_) (fun c_ => ?_)
  · replace h := x_it h c_
    refine x_lload_n d_LX_scanNumber_130 rfl rfl ?_
    refine x_sbk [] (lv2 := []) rfl ?_; exact b_LX_scanNumber_131 h
  · replace h := x_ie h c_
    refine x_lload_n d_LX_scanNumber_125 rfl rfl ?_
    refine x_lneg d_LX_scanNumber_126 ?_
    refine x_goto (tgt := 131) d_LX_scanNumber_127 (by decide) ?_
    refine x_sbk [] (lv2 := []) rfl ?_; exact b_LX_scanNumber_131 h
def B_LX_scanNumber_105  (K45 : Int32 → Int64 → Int32 → x_m → Option (Int64 × x_m)) (l1 : Int32) (l2 : Int64) (l4 : Int32) (m : x_m) : Option (Int64 × x_m) := K45 l1 l2 (l4 + 1) (x_wS m 3 3 ((m.1 3 3) + 1))
theorem b_LX_scanNumber_105 {G : x_G} {ex : Bool} {r : Int64 × x_m}  {K45 : Int32 → Int64 → Int32 → x_m → Option (Int64 × x_m)} (hK45 : ∀ (l1 : Int32) (l2 : Int64) (l4 : Int32) (m : x_m), K45 l1 l2 l4 m = some r → x_W G M_LX_scanNumber (x_rd 0) (x_Q G (x_rd 0) ex (x_pj r)) ex x_np (x_hp m) 0 0 [(0, .ref 3), (1, .int l1), (2, .long l2), (4, .int l4)] [] 45) {l1 : Int32} {l2 : Int64} {l4 : Int32} {m : x_m} (h : B_LX_scanNumber_105 K45 l1 l2 l4 m = some r) : x_W G M_LX_scanNumber (x_rd 0) (x_Q G (x_rd 0) ex (x_pj r)) ex x_np (x_hp m) 0 0 [(0, .ref 3), (1, .int l1), (2, .long l2), (4, .int l4)] [] 105 := by
  unfold B_LX_scanNumber_105 at h
  refine x_aload_n d_LX_scanNumber_105 rfl rfl ?_
  refine x_dup d_LX_scanNumber_106 rfl ?_
  refine x_gI d_LX_scanNumber_107 (f_LX_28 rfl) sh_LX hp_LX rfl ?_
  refine x_iconst (v := 1) d_LX_scanNumber_110 (by decide) ?_
  refine x_iadd d_LX_scanNumber_111 ?_
  refine x_pI d_LX_scanNumber_112 (f_LX_28 rfl) tb_LX rfl sh_LX hp_LX rfl ⟨rfl, rfl⟩ ?_
  refine x_iinc (v := l4 + 1) (lv2 := [(0, .ref 3), (1, .int l1), (2, .long l2), (4, .int (l4 + 1))]) d_LX_scanNumber_115 rfl rfl (by decide) rfl ?_
  refine x_goto (tgt := 45) d_LX_scanNumber_118 (by decide) ?_
  exact hK45 _ _ _ _ h
def B_LX_scanNumber_45   : Nat → Int32 → Int64 → Int32 → x_m → Option (Int64 × x_m)
  | 0, _, _, _, _ => none
  | f_ + 1, l1, l2, l4, m => (if (m.1 1 1) ≤ l4 then B_LX_scanNumber_121 l1 l2 m else (if x_ix l4 65536 = true then (if ((m.2.1 2 l4.toNatClampNeg) - 48) < 0 then B_LX_scanNumber_121 l1 l2 m else (if ((m.2.1 2 l4.toNatClampNeg) - 48) ≤ 9 then (if 0 < (lg_cmp l2 2147483648) then B_LX_scanNumber_105 (B_LX_scanNumber_45 f_) l1 l2 l4 m else B_LX_scanNumber_105 (B_LX_scanNumber_45 f_) l1 ((l2 * 10) + (((m.2.1 2 l4.toNatClampNeg) - 48).toInt64)) l4 m) else B_LX_scanNumber_121 l1 l2 m)) else none))
theorem b_LX_scanNumber_45 {G : x_G} {ex : Bool} {r : Int64 × x_m}   : ∀ (f_ : Nat) (l1 : Int32) (l2 : Int64) (l4 : Int32) (m : x_m), B_LX_scanNumber_45 f_ l1 l2 l4 m = some r → x_W G M_LX_scanNumber (x_rd 0) (x_Q G (x_rd 0) ex (x_pj r)) ex x_np (x_hp m) 0 0 [(0, .ref 3), (1, .int l1), (2, .long l2), (4, .int l4)] [] 45 := by
  intro f_
  induction f_ with
  | zero => intro l1 l2 l4 m h; exact nomatch h
  | succ f_ ih =>
    intro l1 l2 l4 m h
    rw [B_LX_scanNumber_45] at h
    have hK45 := ih
    refine x_iload d_LX_scanNumber_45 rfl ?_
    refine x_aload_n d_LX_scanNumber_47 rfl rfl ?_
    refine x_gC d_LX_scanNumber_48 (f_LX_24 rfl) sh_LX hp_LX rfl ?_
    refine x_gI d_LX_scanNumber_51 (f_LX_47 rfl) sh_TX hp_TX rfl ?_
    refine x_icmp_ge (tgt := 121) d_LX_scanNumber_54 (by decide) (fun c_ => ?_) (fun c_ => ?_)
    · replace h := x_it h c_
      refine x_sbk [1, 2] (lv2 := [(1, .int l1), (2, .long l2)]) rfl ?_; exact b_LX_scanNumber_121 h
    · replace h := x_ie h c_
      refine x_aload_n d_LX_scanNumber_57 rfl rfl ?_
      refine x_gC d_LX_scanNumber_58 (f_LX_24 rfl) sh_LX hp_LX rfl ?_
      refine x_gC d_LX_scanNumber_61 (f_LX_52 rfl) sh_TX hp_TX rfl ?_
      refine x_iload d_LX_scanNumber_64 rfl ?_
      obtain ⟨g_66, h⟩ := x_gd h
      refine x_lB d_LX_scanNumber_66 rfl sa_TX_bytes ha_TX_bytes g_66 ?_
      refine x_bipush (v := 48) d_LX_scanNumber_67 (by decide) ?_
      refine x_isub d_LX_scanNumber_69 ?_
      refine x_istore (lv2 := [(0, .ref 3), (1, .int l1), (2, .long l2), (4, .int l4), (5, .int ((m.2.1 2 l4.toNatClampNeg) - 48))]) d_LX_scanNumber_70 (by decide) rfl ?_
      refine x_iload d_LX_scanNumber_72 rfl ?_
      refine x_if_lt (tgt := 121) d_LX_scanNumber_74 (by decide) (fun c_ => ?_) (fun c_ => ?_)
      · replace h := x_it h c_
        refine x_sbk [1, 2] (lv2 := [(1, .int l1), (2, .long l2)]) rfl ?_; exact b_LX_scanNumber_121 h
      · replace h := x_ie h c_
        refine x_iload d_LX_scanNumber_77 rfl ?_
        refine x_bipush (v := 9) d_LX_scanNumber_79 (by decide) ?_
        refine x_icmp_le (tgt := 87) d_LX_scanNumber_81 (by decide) (fun c_ => ?_) (fun c_ => ?_)
        · replace h := x_it h c_
          refine x_lload_n d_LX_scanNumber_87 rfl rfl ?_
          refine x_ldc2 (v := 2147483648) d_LX_scanNumber_88 w_418 ?_
          refine x_lcmp d_LX_scanNumber_91 ?_
          refine x_if_gt (tgt := 105) d_LX_scanNumber_92 (by decide) (fun c_ => ?_) (fun c_ => ?_)
          · replace h := x_it h c_
            refine x_sbk [0, 1, 2, 3] (lv2 := [(0, .ref 3), (1, .int l1), (2, .long l2), (4, .int l4)]) rfl ?_; exact b_LX_scanNumber_105 hK45 h
          · replace h := x_ie h c_
            refine x_lload_n d_LX_scanNumber_95 rfl rfl ?_
            refine x_ldc2 (v := 10) d_LX_scanNumber_96 w_419 ?_
            refine x_lmul d_LX_scanNumber_99 ?_
            refine x_iload d_LX_scanNumber_100 rfl ?_
            refine x_i2l d_LX_scanNumber_102 ?_
            refine x_ladd d_LX_scanNumber_103 ?_
            refine x_lstore_n (lv2 := [(0, .ref 3), (1, .int l1), (2, .long ((l2 * 10) + (((m.2.1 2 l4.toNatClampNeg) - 48).toInt64))), (4, .int l4), (5, .int ((m.2.1 2 l4.toNatClampNeg) - 48))]) d_LX_scanNumber_104 rfl (by decide) rfl ?_
            refine x_sbk [0, 1, 2, 3] (lv2 := [(0, .ref 3), (1, .int l1), (2, .long ((l2 * 10) + (((m.2.1 2 l4.toNatClampNeg) - 48).toInt64))), (4, .int l4)]) rfl ?_; exact b_LX_scanNumber_105 hK45 h
        · replace h := x_ie h c_
          refine x_goto (tgt := 121) d_LX_scanNumber_84 (by decide) ?_
          refine x_sbk [1, 2] (lv2 := [(1, .int l1), (2, .long l2)]) rfl ?_; exact b_LX_scanNumber_121 h
def B_LX_scanNumber_39   (l1 : Int32) (l2 : Int64) (m : x_m) : Option (Int64 × x_m) := B_LX_scanNumber_45 x_fu l1 l2 (m.1 3 3) m
theorem b_LX_scanNumber_39 {G : x_G} {ex : Bool} {r : Int64 × x_m}   {l1 : Int32} {l2 : Int64} {m : x_m} (h : B_LX_scanNumber_39 l1 l2 m = some r) : x_W G M_LX_scanNumber (x_rd 0) (x_Q G (x_rd 0) ex (x_pj r)) ex x_np (x_hp m) 0 0 [(0, .ref 3), (1, .int l1), (2, .long l2)] [] 39 := by
  unfold B_LX_scanNumber_39 at h
  refine x_aload_n d_LX_scanNumber_39 rfl rfl ?_
  refine x_gI d_LX_scanNumber_40 (f_LX_28 rfl) sh_LX hp_LX rfl ?_
  refine x_istore (lv2 := [(0, .ref 3), (1, .int l1), (2, .long l2), (4, .int (m.1 3 3))]) d_LX_scanNumber_43 (by decide) rfl ?_
  exact b_LX_scanNumber_45 _ _ _ _ _ h
def B_LX_scanNumber_22   (s0 : Int32) (m : x_m) : Option (Int64 × x_m) := (if s0 = 0 then B_LX_scanNumber_39 s0 0 m else B_LX_scanNumber_39 s0 0 (x_wS m 3 3 ((m.1 3 3) + 1)))
theorem b_LX_scanNumber_22 {G : x_G} {ex : Bool} {r : Int64 × x_m}   {s0 : Int32} {m : x_m} (h : B_LX_scanNumber_22 s0 m = some r) : x_W G M_LX_scanNumber (x_rd 0) (x_Q G (x_rd 0) ex (x_pj r)) ex x_np (x_hp m) 0 0 [(0, .ref 3)] [.int s0] 22 := by
  unfold B_LX_scanNumber_22 at h
  refine x_istore_n (lv2 := [(0, .ref 3), (1, .int s0)]) d_LX_scanNumber_22 rfl (by decide) rfl ?_
  refine x_lconst (v := 0) d_LX_scanNumber_23 (by decide) ?_
  refine x_lstore_n (lv2 := [(0, .ref 3), (1, .int s0), (2, .long 0)]) d_LX_scanNumber_24 rfl (by decide) rfl ?_
  refine x_iload_n d_LX_scanNumber_25 rfl rfl ?_
  refine x_if_eq (tgt := 39) d_LX_scanNumber_26 (by decide) (fun c_ => ?_) (fun c_ => ?_)
  · replace h := x_it h c_
    exact b_LX_scanNumber_39 h
  · replace h := x_ie h c_
    refine x_aload_n d_LX_scanNumber_29 rfl rfl ?_
    refine x_dup d_LX_scanNumber_30 rfl ?_
    refine x_gI d_LX_scanNumber_31 (f_LX_28 rfl) sh_LX hp_LX rfl ?_
    refine x_iconst (v := 1) d_LX_scanNumber_34 (by decide) ?_
    refine x_iadd d_LX_scanNumber_35 ?_
    refine x_pI d_LX_scanNumber_36 (f_LX_28 rfl) tb_LX rfl sh_LX hp_LX rfl ⟨rfl, rfl⟩ ?_
    exact b_LX_scanNumber_39 h
def F_LX_scanNumber   (m : x_m) : Option (Int64 × x_m) := (if x_ix (m.1 3 2) 65536 = true then (if (m.2.1 2 (m.1 3 2).toNatClampNeg) = 45 then B_LX_scanNumber_22 1 m else B_LX_scanNumber_22 0 m) else none)
theorem c_LX_scanNumber {G : x_G} {ex : Bool} {r : Int64 × x_m}   {m : x_m} (h : F_LX_scanNumber m = some r) : x_R G M_LX_scanNumber (x_rd 0) ex [.ref 3] x_np (x_hp m) (x_pj r) := by
  unfold F_LX_scanNumber at h
  show x_W G M_LX_scanNumber (x_rd 0) (x_Q G (x_rd 0) ex (x_pj r)) ex x_np (x_hp m) 0 0 [(0, .ref 3)] [] 0
  refine x_aload_n d_LX_scanNumber_0 rfl rfl ?_
  refine x_gC d_LX_scanNumber_1 (f_LX_24 rfl) sh_LX hp_LX rfl ?_
  refine x_gC d_LX_scanNumber_4 (f_LX_52 rfl) sh_TX hp_TX rfl ?_
  refine x_aload_n d_LX_scanNumber_7 rfl rfl ?_
  refine x_gI d_LX_scanNumber_8 (f_LX_37 rfl) sh_LX hp_LX rfl ?_
  obtain ⟨g_11, h⟩ := x_gd h
  refine x_lB d_LX_scanNumber_11 rfl sa_TX_bytes ha_TX_bytes g_11 ?_
  refine x_bipush (v := 45) d_LX_scanNumber_12 (by decide) ?_
  refine x_icmp_ne (tgt := 21) d_LX_scanNumber_14 (by decide) (fun c_ => ?_) (fun c_ => ?_)
  · replace h := x_ie h c_
    refine x_iconst (v := 0) d_LX_scanNumber_21 (by decide) ?_
    exact b_LX_scanNumber_22 h
  · replace h := x_it h c_
    refine x_iconst (v := 1) d_LX_scanNumber_17 (by decide) ?_
    refine x_goto (tgt := 22) d_LX_scanNumber_18 (by decide) ?_
    exact b_LX_scanNumber_22 h
def B_LX_scanSign_123   (s0 : Int64) (m : x_m) : Option (Int64 × x_m) := some (s0, m)
theorem b_LX_scanSign_123 {G : x_G} {ex : Bool} {r : Int64 × x_m}   {s0 : Int64} {m : x_m} (h : B_LX_scanSign_123 s0 m = some r) : x_W G M_LX_scanSign (x_rd 0) (x_Q G (x_rd 0) ex (x_pj r)) ex x_np (x_hp m) 0 0 [] [.long s0] 123 := by
  unfold B_LX_scanSign_123 at h
  cases h
  exact x_rj d_LX_scanSign_123 rfl
def B_LX_scanSign_104   (l1 : Int32) (l2 : Int32) (l3 : Int32) (s0 : Int32) (m : x_m) : Option (Int64 × x_m) := (if l3 = 0 then B_LX_scanSign_123 l1.toInt64 (x_wS m 3 3 s0) else B_LX_scanSign_123 (((l1 <<< ((7 : Int32) &&& 31)) ||| l2).toInt64) (x_wS m 3 3 s0))
theorem b_LX_scanSign_104 {G : x_G} {ex : Bool} {r : Int64 × x_m}   {l1 : Int32} {l2 : Int32} {l3 : Int32} {s0 : Int32} {m : x_m} (h : B_LX_scanSign_104 l1 l2 l3 s0 m = some r) : x_W G M_LX_scanSign (x_rd 0) (x_Q G (x_rd 0) ex (x_pj r)) ex x_np (x_hp m) 0 0 [(1, .int l1), (2, .int l2), (3, .int l3)] [.int s0, .ref 3] 104 := by
  unfold B_LX_scanSign_104 at h
  refine x_pI d_LX_scanSign_104 (f_LX_28 rfl) tb_LX rfl sh_LX hp_LX rfl ⟨rfl, rfl⟩ ?_
  refine x_iload_n d_LX_scanSign_107 rfl rfl ?_
  refine x_if_eq (tgt := 121) d_LX_scanSign_108 (by decide) (fun c_ => ?_) (fun c_ => ?_)
  · replace h := x_it h c_
    refine x_iload_n d_LX_scanSign_121 rfl rfl ?_
    refine x_i2l d_LX_scanSign_122 ?_
    refine x_sbk [] (lv2 := []) rfl ?_; exact b_LX_scanSign_123 h
  · replace h := x_ie h c_
    refine x_iload_n d_LX_scanSign_111 rfl rfl ?_
    refine x_bipush (v := 7) d_LX_scanSign_112 (by decide) ?_
    refine x_ishl d_LX_scanSign_114 ?_
    refine x_iload_n d_LX_scanSign_115 rfl rfl ?_
    refine x_ior d_LX_scanSign_116 ?_
    refine x_i2l d_LX_scanSign_117 ?_
    refine x_goto (tgt := 123) d_LX_scanSign_118 (by decide) ?_
    refine x_sbk [] (lv2 := []) rfl ?_; exact b_LX_scanSign_123 h
def B_LX_scanSign_83   (l1 : Int32) (l2 : Int32) (s0 : Int32) (m : x_m) : Option (Int64 × x_m) := (if s0 = 0 then B_LX_scanSign_104 l1 l2 s0 ((m.1 3 2) + 1) m else B_LX_scanSign_104 l1 l2 s0 ((m.1 3 2) + 2) m)
theorem b_LX_scanSign_83 {G : x_G} {ex : Bool} {r : Int64 × x_m}   {l1 : Int32} {l2 : Int32} {s0 : Int32} {m : x_m} (h : B_LX_scanSign_83 l1 l2 s0 m = some r) : x_W G M_LX_scanSign (x_rd 0) (x_Q G (x_rd 0) ex (x_pj r)) ex x_np (x_hp m) 0 0 [(0, .ref 3), (1, .int l1), (2, .int l2)] [.int s0] 83 := by
  unfold B_LX_scanSign_83 at h
  refine x_istore_n (lv2 := [(0, .ref 3), (1, .int l1), (2, .int l2), (3, .int s0)]) d_LX_scanSign_83 rfl (by decide) rfl ?_
  refine x_aload_n d_LX_scanSign_84 rfl rfl ?_
  refine x_iload_n d_LX_scanSign_85 rfl rfl ?_
  refine x_if_eq (tgt := 98) d_LX_scanSign_86 (by decide) (fun c_ => ?_) (fun c_ => ?_)
  · replace h := x_it h c_
    refine x_aload_n d_LX_scanSign_98 rfl rfl ?_
    refine x_gI d_LX_scanSign_99 (f_LX_37 rfl) sh_LX hp_LX rfl ?_
    refine x_iconst (v := 1) d_LX_scanSign_102 (by decide) ?_
    refine x_iadd d_LX_scanSign_103 ?_
    refine x_sbk [1, 2, 3] (lv2 := [(1, .int l1), (2, .int l2), (3, .int s0)]) rfl ?_; exact b_LX_scanSign_104 h
  · replace h := x_ie h c_
    refine x_aload_n d_LX_scanSign_89 rfl rfl ?_
    refine x_gI d_LX_scanSign_90 (f_LX_37 rfl) sh_LX hp_LX rfl ?_
    refine x_iconst (v := 2) d_LX_scanSign_93 (by decide) ?_
    refine x_iadd d_LX_scanSign_94 ?_
    refine x_goto (tgt := 104) d_LX_scanSign_95 (by decide) ?_
    refine x_sbk [1, 2, 3] (lv2 := [(1, .int l1), (2, .int l2), (3, .int s0)]) rfl ?_; exact b_LX_scanSign_104 h
def B_LX_scanSign_82   (l1 : Int32) (l2 : Int32) (m : x_m) : Option (Int64 × x_m) := B_LX_scanSign_83 l1 l2 0 m
theorem b_LX_scanSign_82 {G : x_G} {ex : Bool} {r : Int64 × x_m}   {l1 : Int32} {l2 : Int32} {m : x_m} (h : B_LX_scanSign_82 l1 l2 m = some r) : x_W G M_LX_scanSign (x_rd 0) (x_Q G (x_rd 0) ex (x_pj r)) ex x_np (x_hp m) 0 0 [(0, .ref 3), (1, .int l1), (2, .int l2)] [] 82 := by
  unfold B_LX_scanSign_82 at h
  refine x_iconst (v := 0) d_LX_scanSign_82 (by decide) ?_
  exact b_LX_scanSign_83 h
def B_LX_scanSign_78   (l1 : Int32) (l2 : Int32) (m : x_m) : Option (Int64 × x_m) := B_LX_scanSign_83 l1 l2 1 m
theorem b_LX_scanSign_78 {G : x_G} {ex : Bool} {r : Int64 × x_m}   {l1 : Int32} {l2 : Int32} {m : x_m} (h : B_LX_scanSign_78 l1 l2 m = some r) : x_W G M_LX_scanSign (x_rd 0) (x_Q G (x_rd 0) ex (x_pj r)) ex x_np (x_hp m) 0 0 [(0, .ref 3), (1, .int l1), (2, .int l2)] [] 78 := by
  unfold B_LX_scanSign_78 at h
  refine x_iconst (v := 1) d_LX_scanSign_78 (by decide) ?_
  refine x_goto (tgt := 83) d_LX_scanSign_79 (by decide) ?_
  exact b_LX_scanSign_83 h
def B_LX_scanSign_66   (l1 : Int32) (l2 : Int32) (m : x_m) : Option (Int64 × x_m) := (if l1 = 62 then (if l2 = 61 then B_LX_scanSign_78 l1 l2 m else B_LX_scanSign_82 l1 l2 m) else B_LX_scanSign_82 l1 l2 m)
theorem b_LX_scanSign_66 {G : x_G} {ex : Bool} {r : Int64 × x_m}   {l1 : Int32} {l2 : Int32} {m : x_m} (h : B_LX_scanSign_66 l1 l2 m = some r) : x_W G M_LX_scanSign (x_rd 0) (x_Q G (x_rd 0) ex (x_pj r)) ex x_np (x_hp m) 0 0 [(0, .ref 3), (1, .int l1), (2, .int l2)] [] 66 := by
  unfold B_LX_scanSign_66 at h
  refine x_iload_n d_LX_scanSign_66 rfl rfl ?_
  refine x_bipush (v := 62) d_LX_scanSign_67 (by decide) ?_
  refine x_icmp_ne (tgt := 82) d_LX_scanSign_69 (by decide) (fun c_ => ?_) (fun c_ => ?_)
  · replace h := x_ie h c_
    exact b_LX_scanSign_82 h
  · replace h := x_it h c_
    refine x_iload_n d_LX_scanSign_72 rfl rfl ?_
    refine x_bipush (v := 61) d_LX_scanSign_73 (by decide) ?_
    refine x_icmp_ne (tgt := 82) d_LX_scanSign_75 (by decide) (fun c_ => ?_) (fun c_ => ?_)
    · replace h := x_ie h c_
      exact b_LX_scanSign_82 h
    · replace h := x_it h c_
      exact b_LX_scanSign_78 h
def B_LX_scanSign_47   (l1 : Int32) (s0 : Int32) (m : x_m) : Option (Int64 × x_m) := (if l1 = 60 then (if s0 = 61 then B_LX_scanSign_78 l1 s0 m else (if s0 = 62 then B_LX_scanSign_78 l1 s0 m else B_LX_scanSign_66 l1 s0 m)) else B_LX_scanSign_66 l1 s0 m)
theorem b_LX_scanSign_47 {G : x_G} {ex : Bool} {r : Int64 × x_m}   {l1 : Int32} {s0 : Int32} {m : x_m} (h : B_LX_scanSign_47 l1 s0 m = some r) : x_W G M_LX_scanSign (x_rd 0) (x_Q G (x_rd 0) ex (x_pj r)) ex x_np (x_hp m) 0 0 [(0, .ref 3), (1, .int l1)] [.int s0] 47 := by
  unfold B_LX_scanSign_47 at h
  refine x_istore_n (lv2 := [(0, .ref 3), (1, .int l1), (2, .int s0)]) d_LX_scanSign_47 rfl (by decide) rfl ?_
  refine x_iload_n d_LX_scanSign_48 rfl rfl ?_
  refine x_bipush (v := 60) d_LX_scanSign_49 (by decide) ?_
  refine x_icmp_ne (tgt := 66) d_LX_scanSign_51 (by decide) (fun c_ => ?_) (fun c_ => ?_)
  · replace h := x_ie h c_
    exact b_LX_scanSign_66 h
  · replace h := x_it h c_
    refine x_iload_n d_LX_scanSign_54 rfl rfl ?_
    refine x_bipush (v := 61) d_LX_scanSign_55 (by decide) ?_
    refine x_icmp_eq (tgt := 78) d_LX_scanSign_57 (by decide) (fun c_ => ?_) (fun c_ => ?_)
    · replace h := x_it h c_
      exact b_LX_scanSign_78 h
    · replace h := x_ie h c_
      refine x_iload_n d_LX_scanSign_60 rfl rfl ?_
      refine x_bipush (v := 62) d_LX_scanSign_61 (by decide) ?_
      refine x_icmp_eq (tgt := 78) d_LX_scanSign_63 (by decide) (fun c_ => ?_) (fun c_ => ?_)
      · replace h := x_it h c_
        exact b_LX_scanSign_78 h
      · replace h := x_ie h c_
        exact b_LX_scanSign_66 h
def F_LX_scanSign   (m : x_m) : Option (Int64 × x_m) := (if x_ix (m.1 3 2) 65536 = true then (if (m.1 1 1) ≤ ((m.1 3 2) + 1) then B_LX_scanSign_47 (m.2.1 2 (m.1 3 2).toNatClampNeg) 0 m else (if x_ix ((m.1 3 2) + 1) 65536 = true then B_LX_scanSign_47 (m.2.1 2 (m.1 3 2).toNatClampNeg) (m.2.1 2 ((m.1 3 2) + 1).toNatClampNeg) m else none)) else none)
theorem c_LX_scanSign {G : x_G} {ex : Bool} {r : Int64 × x_m}   {m : x_m} (h : F_LX_scanSign m = some r) : x_R G M_LX_scanSign (x_rd 0) ex [.ref 3] x_np (x_hp m) (x_pj r) := by
  unfold F_LX_scanSign at h
  show x_W G M_LX_scanSign (x_rd 0) (x_Q G (x_rd 0) ex (x_pj r)) ex x_np (x_hp m) 0 0 [(0, .ref 3)] [] 0
  refine x_aload_n d_LX_scanSign_0 rfl rfl ?_
  refine x_gC d_LX_scanSign_1 (f_LX_24 rfl) sh_LX hp_LX rfl ?_
  refine x_gC d_LX_scanSign_4 (f_LX_52 rfl) sh_TX hp_TX rfl ?_
  refine x_aload_n d_LX_scanSign_7 rfl rfl ?_
  refine x_gI d_LX_scanSign_8 (f_LX_37 rfl) sh_LX hp_LX rfl ?_
  obtain ⟨g_11, h⟩ := x_gd h
  refine x_lB d_LX_scanSign_11 rfl sa_TX_bytes ha_TX_bytes g_11 ?_
  refine x_istore_n (lv2 := [(0, .ref 3), (1, .int (m.2.1 2 (m.1 3 2).toNatClampNeg))]) d_LX_scanSign_12 rfl (by decide) rfl ?_
  refine x_aload_n d_LX_scanSign_13 rfl rfl ?_
  refine x_gI d_LX_scanSign_14 (f_LX_37 rfl) sh_LX hp_LX rfl ?_
  refine x_iconst (v := 1) d_LX_scanSign_17 (by decide) ?_
  refine x_iadd d_LX_scanSign_18 ?_
  refine x_aload_n d_LX_scanSign_19 rfl rfl ?_
  refine x_gC d_LX_scanSign_20 (f_LX_24 rfl) sh_LX hp_LX rfl ?_
  refine x_gI d_LX_scanSign_23 (f_LX_47 rfl) sh_TX hp_TX rfl ?_
  refine x_icmp_ge (tgt := 46) d_LX_scanSign_26 (by decide) (fun c_ => ?_) (fun c_ => ?_)
  · replace h := x_it h c_
    refine x_iconst (v := 0) d_LX_scanSign_46 (by decide) ?_
    exact b_LX_scanSign_47 h
  · replace h := x_ie h c_
    refine x_aload_n d_LX_scanSign_29 rfl rfl ?_
    refine x_gC d_LX_scanSign_30 (f_LX_24 rfl) sh_LX hp_LX rfl ?_
    refine x_gC d_LX_scanSign_33 (f_LX_52 rfl) sh_TX hp_TX rfl ?_
    refine x_aload_n d_LX_scanSign_36 rfl rfl ?_
    refine x_gI d_LX_scanSign_37 (f_LX_37 rfl) sh_LX hp_LX rfl ?_
    refine x_iconst (v := 1) d_LX_scanSign_40 (by decide) ?_
    refine x_iadd d_LX_scanSign_41 ?_
    obtain ⟨g_42, h⟩ := x_gd h
    refine x_lB d_LX_scanSign_42 rfl sa_TX_bytes ha_TX_bytes g_42 ?_
    refine x_goto (tgt := 47) d_LX_scanSign_43 (by decide) ?_
    exact b_LX_scanSign_47 h
def B_LX_scanWord_125   (s0 : Int64) (m : x_m) : Option (Int64 × x_m) := some (s0, m)
theorem b_LX_scanWord_125 {G : x_G} {ex : Bool} {r : Int64 × x_m}   {s0 : Int64} {m : x_m} (h : B_LX_scanWord_125 s0 m = some r) : x_W G M_LX_scanWord (x_rd 0) (x_Q G (x_rd 0) ex (x_pj r)) ex x_np (x_hp m) 0 0 [] [.long s0] 125 := by
  unfold B_LX_scanWord_125 at h
  cases h
  exact x_rj d_LX_scanWord_125 rfl
def B_LX_scanWord_106   (l1 : Int64) (m : x_m) : Option (Int64 × x_m) := (if ((m.1 3 3) - (m.1 3 2)) ≤ 9 then B_LX_scanWord_125 l1 m else B_LX_scanWord_125 0 m)
theorem b_LX_scanWord_106 {G : x_G} {ex : Bool} {r : Int64 × x_m}   {l1 : Int64} {m : x_m} (h : B_LX_scanWord_106 l1 m = some r) : x_W G M_LX_scanWord (x_rd 0) (x_Q G (x_rd 0) ex (x_pj r)) ex x_np (x_hp m) 0 0 [(0, .ref 3), (1, .long l1)] [] 106 := by
  unfold B_LX_scanWord_106 at h
  refine x_aload_n d_LX_scanWord_106 rfl rfl ?_
  refine x_gI d_LX_scanWord_107 (f_LX_28 rfl) sh_LX hp_LX rfl ?_
  refine x_aload_n d_LX_scanWord_110 rfl rfl ?_
  refine x_gI d_LX_scanWord_111 (f_LX_37 rfl) sh_LX hp_LX rfl ?_
  refine x_isub d_LX_scanWord_114 ?_
  refine x_bipush (v := 9) d_LX_scanWord_115 (by decide) ?_
  refine x_icmp_le (tgt := 124) d_LX_scanWord_117 (by decide) (fun c_ => ?_) (fun c_ => ?_)
  · replace h := x_it h c_
    refine x_lload_n d_LX_scanWord_124 rfl rfl ?_
    refine x_sbk [] (lv2 := []) rfl ?_; exact b_LX_scanWord_125 h
  · replace h := x_ie h c_
    refine x_lconst (v := 0) d_LX_scanWord_120 (by decide) ?_
    refine x_goto (tgt := 125) d_LX_scanWord_121 (by decide) ?_
    refine x_sbk [] (lv2 := []) rfl ?_; exact b_LX_scanWord_125 h
def B_LX_scanWord_81  (K7 : Int64 → Int32 → x_m → Option (Int64 × x_m)) (l1 : Int64) (l3 : Int32) (l4 : Int32) (m : x_m) : Option (Int64 × x_m) := K7 ((l1 <<< ((7 : Int32).toInt64 &&& 63)) ||| l4.toInt64) (l3 + 1) (x_wS m 3 3 ((m.1 3 3) + 1))
theorem b_LX_scanWord_81 {G : x_G} {ex : Bool} {r : Int64 × x_m}  {K7 : Int64 → Int32 → x_m → Option (Int64 × x_m)} (hK7 : ∀ (l1 : Int64) (l3 : Int32) (m : x_m), K7 l1 l3 m = some r → x_W G M_LX_scanWord (x_rd 0) (x_Q G (x_rd 0) ex (x_pj r)) ex x_np (x_hp m) 0 0 [(0, .ref 3), (1, .long l1), (3, .int l3)] [] 7) {l1 : Int64} {l3 : Int32} {l4 : Int32} {m : x_m} (h : B_LX_scanWord_81 K7 l1 l3 l4 m = some r) : x_W G M_LX_scanWord (x_rd 0) (x_Q G (x_rd 0) ex (x_pj r)) ex x_np (x_hp m) 0 0 [(0, .ref 3), (1, .long l1), (3, .int l3), (4, .int l4)] [] 81 := by
  unfold B_LX_scanWord_81 at h
  refine x_lload_n d_LX_scanWord_81 rfl rfl ?_
  refine x_bipush (v := 7) d_LX_scanWord_82 (by decide) ?_
  refine x_lshl d_LX_scanWord_84 ?_
  refine x_iload d_LX_scanWord_85 rfl ?_
  refine x_i2l d_LX_scanWord_87 ?_
  refine x_lor d_LX_scanWord_88 ?_
  refine x_lstore_n (lv2 := [(0, .ref 3), (1, .long ((l1 <<< ((7 : Int32).toInt64 &&& 63)) ||| l4.toInt64)), (3, .int l3), (4, .int l4)]) d_LX_scanWord_89 rfl (by decide) rfl ?_
  refine x_aload_n d_LX_scanWord_90 rfl rfl ?_
  refine x_dup d_LX_scanWord_91 rfl ?_
  refine x_gI d_LX_scanWord_92 (f_LX_28 rfl) sh_LX hp_LX rfl ?_
  refine x_iconst (v := 1) d_LX_scanWord_95 (by decide) ?_
  refine x_iadd d_LX_scanWord_96 ?_
  refine x_pI d_LX_scanWord_97 (f_LX_28 rfl) tb_LX rfl sh_LX hp_LX rfl ⟨rfl, rfl⟩ ?_
  refine x_iinc (v := l3 + 1) (lv2 := [(0, .ref 3), (1, .long ((l1 <<< ((7 : Int32).toInt64 &&& 63)) ||| l4.toInt64)), (3, .int (l3 + 1)), (4, .int l4)]) d_LX_scanWord_100 rfl rfl (by decide) rfl ?_
  refine x_goto (tgt := 7) d_LX_scanWord_103 (by decide) ?_
  refine x_sbk [0, 1, 2] (lv2 := [(0, .ref 3), (1, .long ((l1 <<< ((7 : Int32).toInt64 &&& 63)) ||| l4.toInt64)), (3, .int (l3 + 1))]) rfl ?_; exact hK7 _ _ _ h
def B_LX_scanWord_71  (K7 : Int64 → Int32 → x_m → Option (Int64 × x_m)) (l1 : Int64) (l3 : Int32) (l4 : Int32) (m : x_m) : Option (Int64 × x_m) := (if l4 = 95 then B_LX_scanWord_81 K7 l1 l3 l4 m else B_LX_scanWord_106 l1 m)
theorem b_LX_scanWord_71 {G : x_G} {ex : Bool} {r : Int64 × x_m}  {K7 : Int64 → Int32 → x_m → Option (Int64 × x_m)} (hK7 : ∀ (l1 : Int64) (l3 : Int32) (m : x_m), K7 l1 l3 m = some r → x_W G M_LX_scanWord (x_rd 0) (x_Q G (x_rd 0) ex (x_pj r)) ex x_np (x_hp m) 0 0 [(0, .ref 3), (1, .long l1), (3, .int l3)] [] 7) {l1 : Int64} {l3 : Int32} {l4 : Int32} {m : x_m} (h : B_LX_scanWord_71 K7 l1 l3 l4 m = some r) : x_W G M_LX_scanWord (x_rd 0) (x_Q G (x_rd 0) ex (x_pj r)) ex x_np (x_hp m) 0 0 [(0, .ref 3), (1, .long l1), (3, .int l3), (4, .int l4)] [] 71 := by
  unfold B_LX_scanWord_71 at h
  refine x_iload d_LX_scanWord_71 rfl ?_
  refine x_bipush (v := 95) d_LX_scanWord_73 (by decide) ?_
  refine x_icmp_eq (tgt := 81) d_LX_scanWord_75 (by decide) (fun c_ => ?_) (fun c_ => ?_)
  · replace h := x_it h c_
    exact b_LX_scanWord_81 hK7 h
  · replace h := x_ie h c_
    refine x_goto (tgt := 106) d_LX_scanWord_78 (by decide) ?_
    refine x_sbk [0, 1] (lv2 := [(0, .ref 3), (1, .long l1)]) rfl ?_; exact b_LX_scanWord_106 h
def B_LX_scanWord_57  (K7 : Int64 → Int32 → x_m → Option (Int64 × x_m)) (l1 : Int64) (l3 : Int32) (l4 : Int32) (m : x_m) : Option (Int64 × x_m) := (if l4 < 48 then B_LX_scanWord_71 K7 l1 l3 l4 m else (if l4 ≤ 57 then B_LX_scanWord_81 K7 l1 l3 l4 m else B_LX_scanWord_71 K7 l1 l3 l4 m))
theorem b_LX_scanWord_57 {G : x_G} {ex : Bool} {r : Int64 × x_m}  {K7 : Int64 → Int32 → x_m → Option (Int64 × x_m)} (hK7 : ∀ (l1 : Int64) (l3 : Int32) (m : x_m), K7 l1 l3 m = some r → x_W G M_LX_scanWord (x_rd 0) (x_Q G (x_rd 0) ex (x_pj r)) ex x_np (x_hp m) 0 0 [(0, .ref 3), (1, .long l1), (3, .int l3)] [] 7) {l1 : Int64} {l3 : Int32} {l4 : Int32} {m : x_m} (h : B_LX_scanWord_57 K7 l1 l3 l4 m = some r) : x_W G M_LX_scanWord (x_rd 0) (x_Q G (x_rd 0) ex (x_pj r)) ex x_np (x_hp m) 0 0 [(0, .ref 3), (1, .long l1), (3, .int l3), (4, .int l4)] [] 57 := by
  unfold B_LX_scanWord_57 at h
  refine x_iload d_LX_scanWord_57 rfl ?_
  refine x_bipush (v := 48) d_LX_scanWord_59 (by decide) ?_
  refine x_icmp_lt (tgt := 71) d_LX_scanWord_61 (by decide) (fun c_ => ?_) (fun c_ => ?_)
  · replace h := x_it h c_
    exact b_LX_scanWord_71 hK7 h
  · replace h := x_ie h c_
    refine x_iload d_LX_scanWord_64 rfl ?_
    refine x_bipush (v := 57) d_LX_scanWord_66 (by decide) ?_
    refine x_icmp_le (tgt := 81) d_LX_scanWord_68 (by decide) (fun c_ => ?_) (fun c_ => ?_)
    · replace h := x_it h c_
      exact b_LX_scanWord_81 hK7 h
    · replace h := x_ie h c_
      exact b_LX_scanWord_71 hK7 h
def B_LX_scanWord_43  (K7 : Int64 → Int32 → x_m → Option (Int64 × x_m)) (l1 : Int64) (l3 : Int32) (l4 : Int32) (m : x_m) : Option (Int64 × x_m) := (if l4 < 65 then B_LX_scanWord_57 K7 l1 l3 l4 m else (if l4 ≤ 90 then B_LX_scanWord_81 K7 l1 l3 l4 m else B_LX_scanWord_57 K7 l1 l3 l4 m))
theorem b_LX_scanWord_43 {G : x_G} {ex : Bool} {r : Int64 × x_m}  {K7 : Int64 → Int32 → x_m → Option (Int64 × x_m)} (hK7 : ∀ (l1 : Int64) (l3 : Int32) (m : x_m), K7 l1 l3 m = some r → x_W G M_LX_scanWord (x_rd 0) (x_Q G (x_rd 0) ex (x_pj r)) ex x_np (x_hp m) 0 0 [(0, .ref 3), (1, .long l1), (3, .int l3)] [] 7) {l1 : Int64} {l3 : Int32} {l4 : Int32} {m : x_m} (h : B_LX_scanWord_43 K7 l1 l3 l4 m = some r) : x_W G M_LX_scanWord (x_rd 0) (x_Q G (x_rd 0) ex (x_pj r)) ex x_np (x_hp m) 0 0 [(0, .ref 3), (1, .long l1), (3, .int l3), (4, .int l4)] [] 43 := by
  unfold B_LX_scanWord_43 at h
  refine x_iload d_LX_scanWord_43 rfl ?_
  refine x_bipush (v := 65) d_LX_scanWord_45 (by decide) ?_
  refine x_icmp_lt (tgt := 57) d_LX_scanWord_47 (by decide) (fun c_ => ?_) (fun c_ => ?_)
  · replace h := x_it h c_
    exact b_LX_scanWord_57 hK7 h
  · replace h := x_ie h c_
    refine x_iload d_LX_scanWord_50 rfl ?_
    refine x_bipush (v := 90) d_LX_scanWord_52 (by decide) ?_
    refine x_icmp_le (tgt := 81) d_LX_scanWord_54 (by decide) (fun c_ => ?_) (fun c_ => ?_)
    · replace h := x_it h c_
      exact b_LX_scanWord_81 hK7 h
    · replace h := x_ie h c_
      exact b_LX_scanWord_57 hK7 h
def B_LX_scanWord_7   : Nat → Int64 → Int32 → x_m → Option (Int64 × x_m)
  | 0, _, _, _ => none
  | f_ + 1, l1, l3, m => (if (m.1 1 1) ≤ l3 then B_LX_scanWord_106 l1 m else (if x_ix l3 65536 = true then (if (m.2.1 2 l3.toNatClampNeg) < 97 then B_LX_scanWord_43 (B_LX_scanWord_7 f_) l1 l3 (m.2.1 2 l3.toNatClampNeg) m else (if (m.2.1 2 l3.toNatClampNeg) ≤ 122 then B_LX_scanWord_81 (B_LX_scanWord_7 f_) l1 l3 (m.2.1 2 l3.toNatClampNeg) m else B_LX_scanWord_43 (B_LX_scanWord_7 f_) l1 l3 (m.2.1 2 l3.toNatClampNeg) m)) else none))
theorem b_LX_scanWord_7 {G : x_G} {ex : Bool} {r : Int64 × x_m}   : ∀ (f_ : Nat) (l1 : Int64) (l3 : Int32) (m : x_m), B_LX_scanWord_7 f_ l1 l3 m = some r → x_W G M_LX_scanWord (x_rd 0) (x_Q G (x_rd 0) ex (x_pj r)) ex x_np (x_hp m) 0 0 [(0, .ref 3), (1, .long l1), (3, .int l3)] [] 7 := by
  intro f_
  induction f_ with
  | zero => intro l1 l3 m h; exact nomatch h
  | succ f_ ih =>
    intro l1 l3 m h
    rw [B_LX_scanWord_7] at h
    have hK7 := ih
    refine x_iload_n d_LX_scanWord_7 rfl rfl ?_
    refine x_aload_n d_LX_scanWord_8 rfl rfl ?_
    refine x_gC d_LX_scanWord_9 (f_LX_24 rfl) sh_LX hp_LX rfl ?_
    refine x_gI d_LX_scanWord_12 (f_LX_47 rfl) sh_TX hp_TX rfl ?_
    refine x_icmp_ge (tgt := 106) d_LX_scanWord_15 (by decide) (fun c_ => ?_) (fun c_ => ?_)
    · replace h := x_it h c_
      refine x_sbk [0, 1] (lv2 := [(0, .ref 3), (1, .long l1)]) rfl ?_; exact b_LX_scanWord_106 h
    · replace h := x_ie h c_
      refine x_aload_n d_LX_scanWord_18 rfl rfl ?_
      refine x_gC d_LX_scanWord_19 (f_LX_24 rfl) sh_LX hp_LX rfl ?_
      refine x_gC d_LX_scanWord_22 (f_LX_52 rfl) sh_TX hp_TX rfl ?_
      refine x_iload_n d_LX_scanWord_25 rfl rfl ?_
      obtain ⟨g_26, h⟩ := x_gd h
      refine x_lB d_LX_scanWord_26 rfl sa_TX_bytes ha_TX_bytes g_26 ?_
      refine x_istore (lv2 := [(0, .ref 3), (1, .long l1), (3, .int l3), (4, .int (m.2.1 2 l3.toNatClampNeg))]) d_LX_scanWord_27 (by decide) rfl ?_
      refine x_iload d_LX_scanWord_29 rfl ?_
      refine x_bipush (v := 97) d_LX_scanWord_31 (by decide) ?_
      refine x_icmp_lt (tgt := 43) d_LX_scanWord_33 (by decide) (fun c_ => ?_) (fun c_ => ?_)
      · replace h := x_it h c_
        exact b_LX_scanWord_43 hK7 h
      · replace h := x_ie h c_
        refine x_iload d_LX_scanWord_36 rfl ?_
        refine x_bipush (v := 122) d_LX_scanWord_38 (by decide) ?_
        refine x_icmp_le (tgt := 81) d_LX_scanWord_40 (by decide) (fun c_ => ?_) (fun c_ => ?_)
        · replace h := x_it h c_
          exact b_LX_scanWord_81 hK7 h
        · replace h := x_ie h c_
          exact b_LX_scanWord_43 hK7 h
def F_LX_scanWord   (m : x_m) : Option (Int64 × x_m) := B_LX_scanWord_7 x_fu 0 (m.1 3 2) m
theorem c_LX_scanWord {G : x_G} {ex : Bool} {r : Int64 × x_m}   {m : x_m} (h : F_LX_scanWord m = some r) : x_R G M_LX_scanWord (x_rd 0) ex [.ref 3] x_np (x_hp m) (x_pj r) := by
  unfold F_LX_scanWord at h
  show x_W G M_LX_scanWord (x_rd 0) (x_Q G (x_rd 0) ex (x_pj r)) ex x_np (x_hp m) 0 0 [(0, .ref 3)] [] 0
  refine x_lconst (v := 0) d_LX_scanWord_0 (by decide) ?_
  refine x_lstore_n (lv2 := [(0, .ref 3), (1, .long 0)]) d_LX_scanWord_1 rfl (by decide) rfl ?_
  refine x_aload_n d_LX_scanWord_2 rfl rfl ?_
  refine x_gI d_LX_scanWord_3 (f_LX_37 rfl) sh_LX hp_LX rfl ?_
  refine x_istore_n (lv2 := [(0, .ref 3), (1, .long 0), (3, .int (m.1 3 2))]) d_LX_scanWord_6 rfl (by decide) rfl ?_
  exact b_LX_scanWord_7 _ _ _ _ h
def B_LX_skipBlanks_69    (m : x_m) : Option (x_m) := some m
theorem b_LX_skipBlanks_69 {G : x_G} {ex : Bool} {r : x_m}    {m : x_m} (h : B_LX_skipBlanks_69 m = some r) : x_W G M_LX_skipBlanks (x_rd 0) (x_Q G (x_rd 0) ex (x_pv r)) ex x_np (x_hp m) 0 0 [] [] 69 := by
  unfold B_LX_skipBlanks_69 at h
  cases h
  exact x_rv d_LX_skipBlanks_69 rfl
def B_LX_skipBlanks_53  (K5 : Int32 → x_m → Option (x_m)) (l1 : Int32) (m : x_m) : Option (x_m) := K5 (l1 + 1) (x_wS m 3 3 ((m.1 3 3) + 1))
theorem b_LX_skipBlanks_53 {G : x_G} {ex : Bool} {r : x_m}  {K5 : Int32 → x_m → Option (x_m)} (hK5 : ∀ (l1 : Int32) (m : x_m), K5 l1 m = some r → x_W G M_LX_skipBlanks (x_rd 0) (x_Q G (x_rd 0) ex (x_pv r)) ex x_np (x_hp m) 0 0 [(0, .ref 3), (1, .int l1)] [] 5) {l1 : Int32} {m : x_m} (h : B_LX_skipBlanks_53 K5 l1 m = some r) : x_W G M_LX_skipBlanks (x_rd 0) (x_Q G (x_rd 0) ex (x_pv r)) ex x_np (x_hp m) 0 0 [(0, .ref 3), (1, .int l1)] [] 53 := by
  unfold B_LX_skipBlanks_53 at h
  refine x_aload_n d_LX_skipBlanks_53 rfl rfl ?_
  refine x_dup d_LX_skipBlanks_54 rfl ?_
  refine x_gI d_LX_skipBlanks_55 (f_LX_28 rfl) sh_LX hp_LX rfl ?_
  refine x_iconst (v := 1) d_LX_skipBlanks_58 (by decide) ?_
  refine x_iadd d_LX_skipBlanks_59 ?_
  refine x_pI d_LX_skipBlanks_60 (f_LX_28 rfl) tb_LX rfl sh_LX hp_LX rfl ⟨rfl, rfl⟩ ?_
  refine x_iinc (v := l1 + 1) (lv2 := [(0, .ref 3), (1, .int (l1 + 1))]) d_LX_skipBlanks_63 rfl rfl (by decide) rfl ?_
  refine x_goto (tgt := 5) d_LX_skipBlanks_66 (by decide) ?_
  exact hK5 _ _ h
def B_LX_skipBlanks_5   : Nat → Int32 → x_m → Option (x_m)
  | 0, _, _ => none
  | f_ + 1, l1, m => (if (m.1 1 1) ≤ l1 then B_LX_skipBlanks_69 m else (if x_ix l1 65536 = true then (if (m.2.1 2 l1.toNatClampNeg) = 32 then B_LX_skipBlanks_53 (B_LX_skipBlanks_5 f_) l1 m else (if (m.2.1 2 l1.toNatClampNeg) = 9 then B_LX_skipBlanks_53 (B_LX_skipBlanks_5 f_) l1 m else (if (m.2.1 2 l1.toNatClampNeg) = 10 then B_LX_skipBlanks_53 (B_LX_skipBlanks_5 f_) l1 m else (if (m.2.1 2 l1.toNatClampNeg) = 13 then B_LX_skipBlanks_53 (B_LX_skipBlanks_5 f_) l1 m else B_LX_skipBlanks_69 m)))) else none))
theorem b_LX_skipBlanks_5 {G : x_G} {ex : Bool} {r : x_m}   : ∀ (f_ : Nat) (l1 : Int32) (m : x_m), B_LX_skipBlanks_5 f_ l1 m = some r → x_W G M_LX_skipBlanks (x_rd 0) (x_Q G (x_rd 0) ex (x_pv r)) ex x_np (x_hp m) 0 0 [(0, .ref 3), (1, .int l1)] [] 5 := by
  intro f_
  induction f_ with
  | zero => intro l1 m h; exact nomatch h
  | succ f_ ih =>
    intro l1 m h
    rw [B_LX_skipBlanks_5] at h
    have hK5 := ih
    refine x_iload_n d_LX_skipBlanks_5 rfl rfl ?_
    refine x_aload_n d_LX_skipBlanks_6 rfl rfl ?_
    refine x_gC d_LX_skipBlanks_7 (f_LX_24 rfl) sh_LX hp_LX rfl ?_
    refine x_gI d_LX_skipBlanks_10 (f_LX_47 rfl) sh_TX hp_TX rfl ?_
    refine x_icmp_ge (tgt := 69) d_LX_skipBlanks_13 (by decide) (fun c_ => ?_) (fun c_ => ?_)
    · replace h := x_it h c_
      refine x_sbk [] (lv2 := []) rfl ?_; exact b_LX_skipBlanks_69 h
    · replace h := x_ie h c_
      refine x_aload_n d_LX_skipBlanks_16 rfl rfl ?_
      refine x_gC d_LX_skipBlanks_17 (f_LX_24 rfl) sh_LX hp_LX rfl ?_
      refine x_gC d_LX_skipBlanks_20 (f_LX_52 rfl) sh_TX hp_TX rfl ?_
      refine x_iload_n d_LX_skipBlanks_23 rfl rfl ?_
      obtain ⟨g_24, h⟩ := x_gd h
      refine x_lB d_LX_skipBlanks_24 rfl sa_TX_bytes ha_TX_bytes g_24 ?_
      refine x_istore_n (lv2 := [(0, .ref 3), (1, .int l1), (2, .int (m.2.1 2 l1.toNatClampNeg))]) d_LX_skipBlanks_25 rfl (by decide) rfl ?_
      refine x_iload_n d_LX_skipBlanks_26 rfl rfl ?_
      refine x_bipush (v := 32) d_LX_skipBlanks_27 (by decide) ?_
      refine x_icmp_eq (tgt := 53) d_LX_skipBlanks_29 (by decide) (fun c_ => ?_) (fun c_ => ?_)
      · replace h := x_it h c_
        refine x_sbk [0, 1] (lv2 := [(0, .ref 3), (1, .int l1)]) rfl ?_; exact b_LX_skipBlanks_53 hK5 h
      · replace h := x_ie h c_
        refine x_iload_n d_LX_skipBlanks_32 rfl rfl ?_
        refine x_bipush (v := 9) d_LX_skipBlanks_33 (by decide) ?_
        refine x_icmp_eq (tgt := 53) d_LX_skipBlanks_35 (by decide) (fun c_ => ?_) (fun c_ => ?_)
        · replace h := x_it h c_
          refine x_sbk [0, 1] (lv2 := [(0, .ref 3), (1, .int l1)]) rfl ?_; exact b_LX_skipBlanks_53 hK5 h
        · replace h := x_ie h c_
          refine x_iload_n d_LX_skipBlanks_38 rfl rfl ?_
          refine x_bipush (v := 10) d_LX_skipBlanks_39 (by decide) ?_
          refine x_icmp_eq (tgt := 53) d_LX_skipBlanks_41 (by decide) (fun c_ => ?_) (fun c_ => ?_)
          · replace h := x_it h c_
            refine x_sbk [0, 1] (lv2 := [(0, .ref 3), (1, .int l1)]) rfl ?_; exact b_LX_skipBlanks_53 hK5 h
          · replace h := x_ie h c_
            refine x_iload_n d_LX_skipBlanks_44 rfl rfl ?_
            refine x_bipush (v := 13) d_LX_skipBlanks_45 (by decide) ?_
            refine x_icmp_eq (tgt := 53) d_LX_skipBlanks_47 (by decide) (fun c_ => ?_) (fun c_ => ?_)
            · replace h := x_it h c_
              refine x_sbk [0, 1] (lv2 := [(0, .ref 3), (1, .int l1)]) rfl ?_; exact b_LX_skipBlanks_53 hK5 h
            · replace h := x_ie h c_
              refine x_goto (tgt := 69) d_LX_skipBlanks_50 (by decide) ?_
              refine x_sbk [] (lv2 := []) rfl ?_; exact b_LX_skipBlanks_69 h
def F_LX_skipBlanks   (m : x_m) : Option (x_m) := B_LX_skipBlanks_5 x_fu (m.1 3 3) m
theorem c_LX_skipBlanks {G : x_G} {ex : Bool} {r : x_m}   {m : x_m} (h : F_LX_skipBlanks m = some r) : x_R G M_LX_skipBlanks (x_rd 0) ex [.ref 3] x_np (x_hp m) (x_pv r) := by
  unfold F_LX_skipBlanks at h
  show x_W G M_LX_skipBlanks (x_rd 0) (x_Q G (x_rd 0) ex (x_pv r)) ex x_np (x_hp m) 0 0 [(0, .ref 3)] [] 0
  refine x_aload_n d_LX_skipBlanks_0 rfl rfl ?_
  refine x_gI d_LX_skipBlanks_1 (f_LX_28 rfl) sh_LX hp_LX rfl ?_
  refine x_istore_n (lv2 := [(0, .ref 3), (1, .int (m.1 3 3))]) d_LX_skipBlanks_4 rfl (by decide) rfl ?_
  exact b_LX_skipBlanks_5 _ _ _ h
def B_LX_advance_243    (m : x_m) : Option (x_m) := some m
theorem b_LX_advance_243 {G : x_G} {ex : Bool} {r : x_m}    {m : x_m} (h : B_LX_advance_243 m = some r) : x_W G M_LX_advance (x_rd 1) (x_Q G (x_rd 1) ex (x_pv r)) ex x_np (x_hp m) 0 0 [] [] 243 := by
  unfold B_LX_advance_243 at h
  cases h
  exact x_rv d_LX_advance_243 rfl
def B_LX_advance_240   (s0 : Int32) (m : x_m) : Option (x_m) := B_LX_advance_243 (x_wS m 3 8 s0)
theorem b_LX_advance_240 {G : x_G} {ex : Bool} {r : x_m}   {s0 : Int32} {m : x_m} (h : B_LX_advance_240 s0 m = some r) : x_W G M_LX_advance (x_rd 1) (x_Q G (x_rd 1) ex (x_pv r)) ex x_np (x_hp m) 0 0 [] [.int s0, .ref 3] 240 := by
  unfold B_LX_advance_240 at h
  refine x_pI d_LX_advance_240 (f_LX_44 rfl) tb_LX rfl sh_LX hp_LX rfl ⟨rfl, rfl⟩ ?_
  exact b_LX_advance_243 h
def B_LX_advance_210    (m : x_m) : Option (x_m) := ((F_LX_scanSign m).bind fun r212 => ((F_KD_spelled r212.1 (x_N + 1) r212.2).bind fun r218 => (if x_kv ((x_wR r218.2 3 1 r218.1).2.2.1 3 1) = true then (if ((x_wR r218.2 3 1 r218.1).2.2.1 3 1) = (x_N + 1) then B_LX_advance_240 1 (x_wR r218.2 3 1 r218.1) else B_LX_advance_240 4 (x_wR r218.2 3 1 r218.1)) else none)))
theorem b_LX_advance_210 {G : x_G} {ex : Bool} {r : x_m}    {m : x_m} (h : B_LX_advance_210 m = some r) : x_W G M_LX_advance (x_rd 1) (x_Q G (x_rd 1) ex (x_pv r)) ex x_np (x_hp m) 0 0 [(0, .ref 3)] [] 210 := by
  unfold B_LX_advance_210 at h
  refine x_aload_n d_LX_advance_210 rfl rfl ?_
  refine x_aload_n d_LX_advance_211 rfl rfl ?_
  obtain ⟨r212, e212, h⟩ := x_bd h
  refine x_cVj (M2 := M_LX_scanSign) (As := []) (st := [.ref 3]) d_LX_advance_212 w_424 k_LX_scanSign (c_LX_scanSign e212) rfl sh_LX hp_LX rfl ⟨Nat.le_of_ble_eq_true rfl, Nat.le_of_ble_eq_true rfl⟩ (Nat.le_of_ble_eq_true rfl) (Nat.le_of_ble_eq_true rfl) rfl ?_
  refine x_gets (i := 1) d_LX_advance_215 (by decide) w_422 ?_
  obtain ⟨r218, e218, h⟩ := x_bd h
  refine x_cSr (M2 := M_KD_spelled) (As := [.long r212.1, .ref (x_N + 1)]) (st := [.ref 3]) d_LX_advance_218 w_405 k_KD_spelled (c_KD_spelled e218) rfl ⟨Nat.le_of_ble_eq_true rfl, Nat.le_of_ble_eq_true rfl⟩ (Nat.le_of_ble_eq_true rfl) (Nat.le_of_ble_eq_true rfl) rfl ?_
  refine x_pR d_LX_advance_221 (f_LX_15 rfl) tb_LX rfl sh_LX hp_LX rfl ⟨rfl, rfl⟩ ?_
  refine x_aload_n d_LX_advance_224 rfl rfl ?_
  refine x_aload_n d_LX_advance_225 rfl rfl ?_
  refine x_gR d_LX_advance_226 (f_LX_15 rfl) sh_LX hp_LX rfl ?_
  refine x_gets (i := 1) d_LX_advance_229 (by decide) w_422 ?_
  obtain ⟨g_232_0, h⟩ := x_gd h
  refine x_kacmp_ne (tgt := 239) d_LX_advance_232 (by decide) g_232_0 (x_kvN 1 (by decide)) (fun c_ => ?_) (fun c_ => ?_)
  · replace h := x_ie h c_
    refine x_iconst (v := 4) d_LX_advance_239 (by decide) ?_
    refine x_sbk [] (lv2 := []) rfl ?_; exact b_LX_advance_240 h
  · replace h := x_it h c_
    refine x_iconst (v := 1) d_LX_advance_235 (by decide) ?_
    refine x_goto (tgt := 240) d_LX_advance_236 (by decide) ?_
    refine x_sbk [] (lv2 := []) rfl ?_; exact b_LX_advance_240 h
def B_LX_advance_204   (s0 : Int32) (m : x_m) : Option (x_m) := B_LX_advance_243 (x_wS m 3 8 s0)
theorem b_LX_advance_204 {G : x_G} {ex : Bool} {r : x_m}   {s0 : Int32} {m : x_m} (h : B_LX_advance_204 s0 m = some r) : x_W G M_LX_advance (x_rd 1) (x_Q G (x_rd 1) ex (x_pv r)) ex x_np (x_hp m) 0 0 [] [.int s0, .ref 3] 204 := by
  unfold B_LX_advance_204 at h
  refine x_pI d_LX_advance_204 (f_LX_44 rfl) tb_LX rfl sh_LX hp_LX rfl ⟨rfl, rfl⟩ ?_
  refine x_goto (tgt := 243) d_LX_advance_207 (by decide) ?_
  exact b_LX_advance_243 h
def B_LX_advance_185   (l1 : Int64) (s0 : Nat) (m : x_m) : Option (x_m) := (if (lg_cmp (((x_wR m 3 1 s0).1 3 4).toInt64) l1) = 0 then B_LX_advance_204 4 (x_wR m 3 1 s0) else B_LX_advance_204 2 (x_wR m 3 1 s0))
theorem b_LX_advance_185 {G : x_G} {ex : Bool} {r : x_m}   {l1 : Int64} {s0 : Nat} {m : x_m} (h : B_LX_advance_185 l1 s0 m = some r) : x_W G M_LX_advance (x_rd 1) (x_Q G (x_rd 1) ex (x_pv r)) ex x_np (x_hp m) 0 0 [(0, .ref 3), (1, .long l1)] [.ref s0, .ref 3] 185 := by
  unfold B_LX_advance_185 at h
  refine x_pR d_LX_advance_185 (f_LX_15 rfl) tb_LX rfl sh_LX hp_LX rfl ⟨rfl, rfl⟩ ?_
  refine x_aload_n d_LX_advance_188 rfl rfl ?_
  refine x_aload_n d_LX_advance_189 rfl rfl ?_
  refine x_gI d_LX_advance_190 (f_LX_82 rfl) sh_LX hp_LX rfl ?_
  refine x_i2l d_LX_advance_193 ?_
  refine x_lload_n d_LX_advance_194 rfl rfl ?_
  refine x_lcmp d_LX_advance_195 ?_
  refine x_if_ne (tgt := 203) d_LX_advance_196 (by decide) (fun c_ => ?_) (fun c_ => ?_)
  · replace h := x_ie h c_
    refine x_iconst (v := 2) d_LX_advance_203 (by decide) ?_
    refine x_sbk [] (lv2 := []) rfl ?_; exact b_LX_advance_204 h
  · replace h := x_it h c_
    refine x_iconst (v := 4) d_LX_advance_199 (by decide) ?_
    refine x_goto (tgt := 204) d_LX_advance_200 (by decide) ?_
    refine x_sbk [] (lv2 := []) rfl ?_; exact b_LX_advance_204 h
def B_LX_advance_154    (m : x_m) : Option (x_m) := ((F_LX_scanNumber m).bind fun r155 => (if (lg_cmp (((x_wS r155.2 3 4 r155.1.toInt32).1 3 4).toInt64) r155.1) = 0 then B_LX_advance_185 r155.1 (x_N + 2) (x_wS r155.2 3 4 r155.1.toInt32) else B_LX_advance_185 r155.1 (x_N + 1) (x_wS r155.2 3 4 r155.1.toInt32)))
theorem b_LX_advance_154 {G : x_G} {ex : Bool} {r : x_m}    {m : x_m} (h : B_LX_advance_154 m = some r) : x_W G M_LX_advance (x_rd 1) (x_Q G (x_rd 1) ex (x_pv r)) ex x_np (x_hp m) 0 0 [(0, .ref 3)] [] 154 := by
  unfold B_LX_advance_154 at h
  refine x_aload_n d_LX_advance_154 rfl rfl ?_
  obtain ⟨r155, e155, h⟩ := x_bd h
  refine x_cVj (M2 := M_LX_scanNumber) (As := []) (st := []) d_LX_advance_155 w_414 k_LX_scanNumber (c_LX_scanNumber e155) rfl sh_LX hp_LX rfl ⟨Nat.le_of_ble_eq_true rfl, Nat.le_of_ble_eq_true rfl⟩ (Nat.le_of_ble_eq_true rfl) (Nat.le_of_ble_eq_true rfl) rfl ?_
  refine x_lstore_n (lv2 := [(0, .ref 3), (1, .long r155.1)]) d_LX_advance_158 rfl (by decide) rfl ?_
  refine x_aload_n d_LX_advance_159 rfl rfl ?_
  refine x_lload_n d_LX_advance_160 rfl rfl ?_
  refine x_l2i d_LX_advance_161 ?_
  refine x_pI d_LX_advance_162 (f_LX_82 rfl) tb_LX rfl sh_LX hp_LX rfl ⟨rfl, rfl⟩ ?_
  refine x_aload_n d_LX_advance_165 rfl rfl ?_
  refine x_aload_n d_LX_advance_166 rfl rfl ?_
  refine x_gI d_LX_advance_167 (f_LX_82 rfl) sh_LX hp_LX rfl ?_
  refine x_i2l d_LX_advance_170 ?_
  refine x_lload_n d_LX_advance_171 rfl rfl ?_
  refine x_lcmp d_LX_advance_172 ?_
  refine x_if_ne (tgt := 182) d_LX_advance_173 (by decide) (fun c_ => ?_) (fun c_ => ?_)
  · replace h := x_ie h c_
    refine x_gets (i := 1) d_LX_advance_182 (by decide) w_422 ?_
    exact b_LX_advance_185 h
  · replace h := x_it h c_
    refine x_gets (i := 2) d_LX_advance_176 (by decide) w_420 ?_
    refine x_goto (tgt := 185) d_LX_advance_179 (by decide) ?_
    exact b_LX_advance_185 h
def B_LX_advance_107   (s0 : Nat) (m : x_m) : Option (x_m) := B_LX_advance_243 (x_wR m 3 1 s0)
theorem b_LX_advance_107 {G : x_G} {ex : Bool} {r : x_m}   {s0 : Nat} {m : x_m} (h : B_LX_advance_107 s0 m = some r) : x_W G M_LX_advance (x_rd 1) (x_Q G (x_rd 1) ex (x_pv r)) ex x_np (x_hp m) 0 0 [] [.ref s0, .ref 3] 107 := by
  unfold B_LX_advance_107 at h
  refine x_pR d_LX_advance_107 (f_LX_15 rfl) tb_LX rfl sh_LX hp_LX rfl ⟨rfl, rfl⟩ ?_
  refine x_goto (tgt := 243) d_LX_advance_110 (by decide) ?_
  exact b_LX_advance_243 h
def F_LX_advance   (m : x_m) : Option (x_m) := ((F_LX_skipBlanks m).bind fun r1 => (if ((x_wS (x_wS (x_wS r1 3 2 (r1.1 3 3)) 3 7 0) 3 8 4).1 3 2) < ((x_wS (x_wS (x_wS r1 3 2 (r1.1 3 3)) 3 7 0) 3 8 4).1 1 1) then (if x_ix ((x_wS (x_wS (x_wS r1 3 2 (r1.1 3 3)) 3 7 0) 3 8 4).1 3 2) 65536 = true then ((F_LX_isLetter ((x_wS (x_wS (x_wS r1 3 2 (r1.1 3 3)) 3 7 0) 3 8 4).2.1 2 ((x_wS (x_wS (x_wS r1 3 2 (r1.1 3 3)) 3 7 0) 3 8 4).1 3 2).toNatClampNeg) (x_wS (x_wS (x_wS r1 3 2 (r1.1 3 3)) 3 7 0) 3 8 4)).bind fun r63 => (if r63.1 = 0 then ((F_LX_isDigit (r63.2.1 3 2) r63.2).bind fun r118 => (if r118.1 = 0 then (if x_ix (r118.2.1 3 2) 65536 = true then (if (r118.2.2.1 2 (r118.2.1 3 2).toNatClampNeg) = 45 then ((F_LX_isDigit ((r118.2.1 3 2) + 1) r118.2).bind fun r148 => (if r148.1 = 0 then B_LX_advance_210 r148.2 else B_LX_advance_154 r148.2)) else B_LX_advance_210 r118.2) else none) else B_LX_advance_154 r118.2)) else ((F_LX_scanWord r63.2).bind fun r70 => (if (((x_wS r70.2 3 7 1).1 3 3) - ((x_wS r70.2 3 7 1).1 3 2)) ≤ 40 then ((F_KD_spelled r70.1 (x_N + 3) (x_wS r70.2 3 7 1)).bind fun r104 => B_LX_advance_107 r104.1 r104.2) else B_LX_advance_107 (x_N + 4) (x_wS r70.2 3 7 1))))) else none) else B_LX_advance_243 (x_wS (x_wR (x_wS (x_wS (x_wS r1 3 2 (r1.1 3 3)) 3 7 0) 3 8 4) 3 1 (x_N + 0)) 3 8 3)))
theorem c_LX_advance {G : x_G} {ex : Bool} {r : x_m}   {m : x_m} (h : F_LX_advance m = some r) : x_R G M_LX_advance (x_rd 1) ex [.ref 3] x_np (x_hp m) (x_pv r) := by
  unfold F_LX_advance at h
  show x_W G M_LX_advance (x_rd 1) (x_Q G (x_rd 1) ex (x_pv r)) ex x_np (x_hp m) 0 0 [(0, .ref 3)] [] 0
  refine x_aload_n d_LX_advance_0 rfl rfl ?_
  obtain ⟨r1, e1, h⟩ := x_bd h
  refine x_cVv (M2 := M_LX_skipBlanks) (As := []) (st := []) d_LX_advance_1 w_390 k_LX_skipBlanks (c_LX_skipBlanks e1) rfl sh_LX hp_LX rfl ⟨Nat.le_of_ble_eq_true rfl, Nat.le_of_ble_eq_true rfl⟩ (Nat.le_of_ble_eq_true rfl) (Nat.le_of_ble_eq_true rfl) rfl ?_
  refine x_aload_n d_LX_advance_4 rfl rfl ?_
  refine x_aload_n d_LX_advance_5 rfl rfl ?_
  refine x_gI d_LX_advance_6 (f_LX_28 rfl) sh_LX hp_LX rfl ?_
  refine x_pI d_LX_advance_9 (f_LX_37 rfl) tb_LX rfl sh_LX hp_LX rfl ⟨rfl, rfl⟩ ?_
  refine x_aload_n d_LX_advance_12 rfl rfl ?_
  refine x_iconst (v := 0) d_LX_advance_13 (by decide) ?_
  refine x_pI d_LX_advance_14 (f_LX_40 rfl) tb_LX rfl sh_LX hp_LX rfl ⟨rfl, rfl⟩ ?_
  refine x_aload_n d_LX_advance_17 rfl rfl ?_
  refine x_iconst (v := 4) d_LX_advance_18 (by decide) ?_
  refine x_pI d_LX_advance_19 (f_LX_44 rfl) tb_LX rfl sh_LX hp_LX rfl ⟨rfl, rfl⟩ ?_
  refine x_aload_n d_LX_advance_22 rfl rfl ?_
  refine x_gI d_LX_advance_23 (f_LX_37 rfl) sh_LX hp_LX rfl ?_
  refine x_aload_n d_LX_advance_26 rfl rfl ?_
  refine x_gC d_LX_advance_27 (f_LX_24 rfl) sh_LX hp_LX rfl ?_
  refine x_gI d_LX_advance_30 (f_LX_47 rfl) sh_TX hp_TX rfl ?_
  refine x_icmp_lt (tgt := 51) d_LX_advance_33 (by decide) (fun c_ => ?_) (fun c_ => ?_)
  · replace h := x_it h c_
    refine x_aload_n d_LX_advance_51 rfl rfl ?_
    refine x_gC d_LX_advance_52 (f_LX_24 rfl) sh_LX hp_LX rfl ?_
    refine x_gC d_LX_advance_55 (f_LX_52 rfl) sh_TX hp_TX rfl ?_
    refine x_aload_n d_LX_advance_58 rfl rfl ?_
    refine x_gI d_LX_advance_59 (f_LX_37 rfl) sh_LX hp_LX rfl ?_
    obtain ⟨g_62, h⟩ := x_gd h
    refine x_lB d_LX_advance_62 rfl sa_TX_bytes ha_TX_bytes g_62 ?_
    obtain ⟨r63, e63, h⟩ := x_bd h
    refine x_cSi (M2 := M_LX_isLetter) (As := [.int ((x_wS (x_wS (x_wS r1 3 2 (r1.1 3 3)) 3 7 0) 3 8 4).2.1 2 ((x_wS (x_wS (x_wS r1 3 2 (r1.1 3 3)) 3 7 0) 3 8 4).1 3 2).toNatClampNeg)]) (st := []) d_LX_advance_63 w_394 k_LX_isLetter (c_LX_isLetter e63) rfl ⟨Nat.le_of_ble_eq_true rfl, Nat.le_of_ble_eq_true rfl⟩ (Nat.le_of_ble_eq_true rfl) (Nat.le_of_ble_eq_true rfl) rfl ?_
    refine x_if_eq (tgt := 113) d_LX_advance_66 (by decide) (fun c_ => ?_) (fun c_ => ?_)
    · replace h := x_it h c_
      refine x_aload_n d_LX_advance_113 rfl rfl ?_
      refine x_aload_n d_LX_advance_114 rfl rfl ?_
      refine x_gI d_LX_advance_115 (f_LX_37 rfl) sh_LX hp_LX rfl ?_
      obtain ⟨r118, e118, h⟩ := x_bd h
      refine x_cVi (M2 := M_LX_isDigit) (As := [.int (r63.2.1 3 2)]) (st := []) d_LX_advance_118 w_410 k_LX_isDigit (c_LX_isDigit e118) rfl sh_LX hp_LX rfl ⟨Nat.le_of_ble_eq_true rfl, Nat.le_of_ble_eq_true rfl⟩ (Nat.le_of_ble_eq_true rfl) (Nat.le_of_ble_eq_true rfl) rfl ?_
      refine x_if_ne (tgt := 154) d_LX_advance_121 (by decide) (fun c_ => ?_) (fun c_ => ?_)
      · replace h := x_ie h c_
        exact b_LX_advance_154 h
      · replace h := x_it h c_
        refine x_aload_n d_LX_advance_124 rfl rfl ?_
        refine x_gC d_LX_advance_125 (f_LX_24 rfl) sh_LX hp_LX rfl ?_
        refine x_gC d_LX_advance_128 (f_LX_52 rfl) sh_TX hp_TX rfl ?_
        refine x_aload_n d_LX_advance_131 rfl rfl ?_
        refine x_gI d_LX_advance_132 (f_LX_37 rfl) sh_LX hp_LX rfl ?_
        obtain ⟨g_135, h⟩ := x_gd h
        refine x_lB d_LX_advance_135 rfl sa_TX_bytes ha_TX_bytes g_135 ?_
        refine x_bipush (v := 45) d_LX_advance_136 (by decide) ?_
        refine x_icmp_ne (tgt := 210) d_LX_advance_138 (by decide) (fun c_ => ?_) (fun c_ => ?_)
        · replace h := x_ie h c_
          exact b_LX_advance_210 h
        · replace h := x_it h c_
          refine x_aload_n d_LX_advance_141 rfl rfl ?_
          refine x_aload_n d_LX_advance_142 rfl rfl ?_
          refine x_gI d_LX_advance_143 (f_LX_37 rfl) sh_LX hp_LX rfl ?_
          refine x_iconst (v := 1) d_LX_advance_146 (by decide) ?_
          refine x_iadd d_LX_advance_147 ?_
          obtain ⟨r148, e148, h⟩ := x_bd h
          refine x_cVi (M2 := M_LX_isDigit) (As := [.int ((r118.2.1 3 2) + 1)]) (st := []) d_LX_advance_148 w_410 k_LX_isDigit (c_LX_isDigit e148) rfl sh_LX hp_LX rfl ⟨Nat.le_of_ble_eq_true rfl, Nat.le_of_ble_eq_true rfl⟩ (Nat.le_of_ble_eq_true rfl) (Nat.le_of_ble_eq_true rfl) rfl ?_
          refine x_if_eq (tgt := 210) d_LX_advance_151 (by decide) (fun c_ => ?_) (fun c_ => ?_)
          · replace h := x_it h c_
            exact b_LX_advance_210 h
          · replace h := x_ie h c_
            exact b_LX_advance_154 h
    · replace h := x_ie h c_
      refine x_aload_n d_LX_advance_69 rfl rfl ?_
      obtain ⟨r70, e70, h⟩ := x_bd h
      refine x_cVj (M2 := M_LX_scanWord) (As := []) (st := []) d_LX_advance_70 w_397 k_LX_scanWord (c_LX_scanWord e70) rfl sh_LX hp_LX rfl ⟨Nat.le_of_ble_eq_true rfl, Nat.le_of_ble_eq_true rfl⟩ (Nat.le_of_ble_eq_true rfl) (Nat.le_of_ble_eq_true rfl) rfl ?_
      refine x_lstore_n (lv2 := [(0, .ref 3), (1, .long r70.1)]) d_LX_advance_73 rfl (by decide) rfl ?_
      refine x_aload_n d_LX_advance_74 rfl rfl ?_
      refine x_iconst (v := 1) d_LX_advance_75 (by decide) ?_
      refine x_pI d_LX_advance_76 (f_LX_40 rfl) tb_LX rfl sh_LX hp_LX rfl ⟨rfl, rfl⟩ ?_
      refine x_aload_n d_LX_advance_79 rfl rfl ?_
      refine x_aload_n d_LX_advance_80 rfl rfl ?_
      refine x_gI d_LX_advance_81 (f_LX_28 rfl) sh_LX hp_LX rfl ?_
      refine x_aload_n d_LX_advance_84 rfl rfl ?_
      refine x_gI d_LX_advance_85 (f_LX_37 rfl) sh_LX hp_LX rfl ?_
      refine x_isub d_LX_advance_88 ?_
      refine x_bipush (v := 40) d_LX_advance_89 (by decide) ?_
      refine x_icmp_le (tgt := 100) d_LX_advance_91 (by decide) (fun c_ => ?_) (fun c_ => ?_)
      · replace h := x_it h c_
        refine x_lload_n d_LX_advance_100 rfl rfl ?_
        refine x_gets (i := 3) d_LX_advance_101 (by decide) w_403 ?_
        obtain ⟨r104, e104, h⟩ := x_bd h
        refine x_cSr (M2 := M_KD_spelled) (As := [.long r70.1, .ref (x_N + 3)]) (st := [.ref 3]) d_LX_advance_104 w_405 k_KD_spelled (c_KD_spelled e104) rfl ⟨Nat.le_of_ble_eq_true rfl, Nat.le_of_ble_eq_true rfl⟩ (Nat.le_of_ble_eq_true rfl) (Nat.le_of_ble_eq_true rfl) rfl ?_
        refine x_sbk [] (lv2 := []) rfl ?_; exact b_LX_advance_107 h
      · replace h := x_ie h c_
        refine x_gets (i := 4) d_LX_advance_94 (by decide) w_401 ?_
        refine x_goto (tgt := 107) d_LX_advance_97 (by decide) ?_
        refine x_sbk [] (lv2 := []) rfl ?_; exact b_LX_advance_107 h
  · replace h := x_ie h c_
    refine x_aload_n d_LX_advance_36 rfl rfl ?_
    refine x_gets (i := 0) d_LX_advance_37 (by decide) w_59 ?_
    refine x_pR d_LX_advance_40 (f_LX_15 rfl) tb_LX rfl sh_LX hp_LX rfl ⟨rfl, rfl⟩ ?_
    refine x_aload_n d_LX_advance_43 rfl rfl ?_
    refine x_iconst (v := 3) d_LX_advance_44 (by decide) ?_
    refine x_pI d_LX_advance_45 (f_LX_44 rfl) tb_LX rfl sh_LX hp_LX rfl ⟨rfl, rfl⟩ ?_
    refine x_goto (tgt := 243) d_LX_advance_48 (by decide) ?_
    refine x_sbk [] (lv2 := []) rfl ?_; exact b_LX_advance_243 h
