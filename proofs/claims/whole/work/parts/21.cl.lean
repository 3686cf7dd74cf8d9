def M_LX_at : x_M := (⟨"QuestionReader$Lexer", "at", "(LQuestionReader$Kind;)Z"⟩, prog_8_method_5_code, 2, some (.boolean), [])
theorem d_LX_at_0 : decode M_LX_at.2.1 0 = .ok (.aload_n 0, 1) := by decide +kernel
theorem d_LX_at_1 : decode M_LX_at.2.1 1 = .ok (.getfield 15, 3) := by decide +kernel
theorem d_LX_at_4 : decode M_LX_at.2.1 4 = .ok (.aload_n 1, 1) := by decide +kernel
theorem d_LX_at_5 : decode M_LX_at.2.1 5 = .ok (.if_acmp .eq 18, 3) := by decide +kernel
theorem d_LX_at_8 : decode M_LX_at.2.1 8 = .ok (.aload_n 0, 1) := by decide +kernel
theorem d_LX_at_9 : decode M_LX_at.2.1 9 = .ok (.aload_n 0, 1) := by decide +kernel
theorem d_LX_at_10 : decode M_LX_at.2.1 10 = .ok (.getfield 44, 3) := by decide +kernel
theorem d_LX_at_13 : decode M_LX_at.2.1 13 = .ok (.aload_n 0, 1) := by decide +kernel
theorem d_LX_at_14 : decode M_LX_at.2.1 14 = .ok (.getfield 37, 3) := by decide +kernel
theorem d_LX_at_17 : decode M_LX_at.2.1 17 = .ok (.invokevirtual 101, 3) := by decide +kernel
theorem d_LX_at_20 : decode M_LX_at.2.1 20 = .ok (.ifCond .eq 7, 3) := by decide +kernel
theorem d_LX_at_23 : decode M_LX_at.2.1 23 = .ok (.iconst 1, 1) := by decide +kernel
theorem d_LX_at_24 : decode M_LX_at.2.1 24 = .ok (.goto 4, 3) := by decide +kernel
theorem d_LX_at_27 : decode M_LX_at.2.1 27 = .ok (.iconst 0, 1) := by decide +kernel
theorem d_LX_at_28 : decode M_LX_at.2.1 28 = .ok (.ireturn, 1) := by decide +kernel
theorem k_LX_at : x_kV M_LX_at "QuestionReader$Lexer" 1 := ⟨⟨by decide, Or.inl ⟨w_500, rfl⟩⟩, w_498, w_499, ⟨by decide, by decide⟩, by decide +kernel⟩
def M_NM_keep : x_M := (⟨"QuestionReader$Names", "keep", "(ILQuestionReader$Lexer;)V"⟩, prog_9_method_2_code, 4, none, [])
theorem d_NM_keep_0 : decode M_NM_keep.2.1 0 = .ok (.aload_n 2, 1) := by decide +kernel
theorem d_NM_keep_1 : decode M_NM_keep.2.1 1 = .ok (.getfield 19, 3) := by decide +kernel
theorem d_NM_keep_4 : decode M_NM_keep.2.1 4 = .ok (.aload_n 2, 1) := by decide +kernel
theorem d_NM_keep_5 : decode M_NM_keep.2.1 5 = .ok (.getfield 25, 3) := by decide +kernel
theorem d_NM_keep_8 : decode M_NM_keep.2.1 8 = .ok (.isub, 1) := by decide +kernel
theorem d_NM_keep_9 : decode M_NM_keep.2.1 9 = .ok (.istore_n 3, 1) := by decide +kernel
theorem d_NM_keep_10 : decode M_NM_keep.2.1 10 = .ok (.iload_n 1, 1) := by decide +kernel
theorem d_NM_keep_11 : decode M_NM_keep.2.1 11 = .ok (.bipush 48, 2) := by decide +kernel
theorem d_NM_keep_13 : decode M_NM_keep.2.1 13 = .ok (.if_icmp .ge 39, 3) := by decide +kernel
theorem d_NM_keep_16 : decode M_NM_keep.2.1 16 = .ok (.iload_n 3, 1) := by decide +kernel
theorem d_NM_keep_17 : decode M_NM_keep.2.1 17 = .ok (.bipush 40, 2) := by decide +kernel
theorem d_NM_keep_19 : decode M_NM_keep.2.1 19 = .ok (.if_icmp .gt 33, 3) := by decide +kernel
theorem d_NM_keep_22 : decode M_NM_keep.2.1 22 = .ok (.aload_n 2, 1) := by decide +kernel
theorem d_NM_keep_23 : decode M_NM_keep.2.1 23 = .ok (.getfield 28, 3) := by decide +kernel
theorem d_NM_keep_26 : decode M_NM_keep.2.1 26 = .ok (.getfield 32, 3) := by decide +kernel
theorem d_NM_keep_29 : decode M_NM_keep.2.1 29 = .ok (.aload_n 2, 1) := by decide +kernel
theorem d_NM_keep_30 : decode M_NM_keep.2.1 30 = .ok (.getfield 25, 3) := by decide +kernel
theorem d_NM_keep_33 : decode M_NM_keep.2.1 33 = .ok (.aload_n 0, 1) := by decide +kernel
theorem d_NM_keep_34 : decode M_NM_keep.2.1 34 = .ok (.getfield 11, 3) := by decide +kernel
theorem d_NM_keep_37 : decode M_NM_keep.2.1 37 = .ok (.iload_n 1, 1) := by decide +kernel
theorem d_NM_keep_38 : decode M_NM_keep.2.1 38 = .ok (.bipush 40, 2) := by decide +kernel
theorem d_NM_keep_40 : decode M_NM_keep.2.1 40 = .ok (.imul, 1) := by decide +kernel
theorem d_NM_keep_41 : decode M_NM_keep.2.1 41 = .ok (.iload_n 3, 1) := by decide +kernel
theorem d_NM_keep_42 : decode M_NM_keep.2.1 42 = .ok (.invokestatic 37, 3) := by decide +kernel
theorem d_NM_keep_45 : decode M_NM_keep.2.1 45 = .ok (.aload_n 0, 1) := by decide +kernel
theorem d_NM_keep_46 : decode M_NM_keep.2.1 46 = .ok (.getfield 15, 3) := by decide +kernel
theorem d_NM_keep_49 : decode M_NM_keep.2.1 49 = .ok (.iload_n 1, 1) := by decide +kernel
theorem d_NM_keep_50 : decode M_NM_keep.2.1 50 = .ok (.iload_n 3, 1) := by decide +kernel
theorem d_NM_keep_51 : decode M_NM_keep.2.1 51 = .ok (.iastore, 1) := by decide +kernel
theorem d_NM_keep_52 : decode M_NM_keep.2.1 52 = .ok (.return_, 1) := by decide +kernel
theorem k_NM_keep : x_kV M_NM_keep "QuestionReader$Names" 2 := ⟨⟨by decide, Or.inl ⟨w_717, rfl⟩⟩, w_715, w_716, ⟨by decide, by decide⟩, by decide +kernel⟩
def M_CG_readLevels : x_M := (⟨"QuestionReader$CatalogGrammar", "readLevels", "(I)I"⟩, prog_3_method_6_code, 4, some (.int), [])
theorem d_CG_readLevels_0 : decode M_CG_readLevels.2.1 0 = .ok (.bipush 8, 2) := by decide +kernel
theorem d_CG_readLevels_2 : decode M_CG_readLevels.2.1 2 = .ok (.iload_n 1, 1) := by decide +kernel
theorem d_CG_readLevels_3 : decode M_CG_readLevels.2.1 3 = .ok (.iconst 0, 1) := by decide +kernel
theorem d_CG_readLevels_4 : decode M_CG_readLevels.2.1 4 = .ok (.invokestatic 114, 3) := by decide +kernel
theorem d_CG_readLevels_7 : decode M_CG_readLevels.2.1 7 = .ok (.iadd, 1) := by decide +kernel
theorem d_CG_readLevels_8 : decode M_CG_readLevels.2.1 8 = .ok (.istore_n 2, 1) := by decide +kernel
theorem d_CG_readLevels_9 : decode M_CG_readLevels.2.1 9 = .ok (.iconst 0, 1) := by decide +kernel
theorem d_CG_readLevels_10 : decode M_CG_readLevels.2.1 10 = .ok (.istore_n 3, 1) := by decide +kernel
theorem d_CG_readLevels_11 : decode M_CG_readLevels.2.1 11 = .ok (.iload_n 3, 1) := by decide +kernel
theorem d_CG_readLevels_12 : decode M_CG_readLevels.2.1 12 = .ok (.iconst 4, 1) := by decide +kernel
theorem d_CG_readLevels_13 : decode M_CG_readLevels.2.1 13 = .ok (.if_icmp .gt 80, 3) := by decide +kernel
theorem d_CG_readLevels_16 : decode M_CG_readLevels.2.1 16 = .ok (.aload_n 0, 1) := by decide +kernel
theorem d_CG_readLevels_17 : decode M_CG_readLevels.2.1 17 = .ok (.getfield 9, 3) := by decide +kernel
theorem d_CG_readLevels_20 : decode M_CG_readLevels.2.1 20 = .ok (.invokevirtual 55, 3) := by decide +kernel
theorem d_CG_readLevels_23 : decode M_CG_readLevels.2.1 23 = .ok (.aload_n 0, 1) := by decide +kernel
theorem d_CG_readLevels_24 : decode M_CG_readLevels.2.1 24 = .ok (.iload_n 2, 1) := by decide +kernel
theorem d_CG_readLevels_25 : decode M_CG_readLevels.2.1 25 = .ok (.iload_n 3, 1) := by decide +kernel
theorem d_CG_readLevels_26 : decode M_CG_readLevels.2.1 26 = .ok (.invokevirtual 118, 3) := by decide +kernel
theorem d_CG_readLevels_29 : decode M_CG_readLevels.2.1 29 = .ok (.ifCond .ne 5, 3) := by decide +kernel
theorem d_CG_readLevels_32 : decode M_CG_readLevels.2.1 32 = .ok (.iconst 0, 1) := by decide +kernel
theorem d_CG_readLevels_33 : decode M_CG_readLevels.2.1 33 = .ok (.ireturn, 1) := by decide +kernel
theorem d_CG_readLevels_34 : decode M_CG_readLevels.2.1 34 = .ok (.aload_n 0, 1) := by decide +kernel
theorem d_CG_readLevels_35 : decode M_CG_readLevels.2.1 35 = .ok (.getfield 25, 3) := by decide +kernel
theorem d_CG_readLevels_38 : decode M_CG_readLevels.2.1 38 = .ok (.iload_n 2, 1) := by decide +kernel
theorem d_CG_readLevels_39 : decode M_CG_readLevels.2.1 39 = .ok (.iload_n 3, 1) := by decide +kernel
theorem d_CG_readLevels_40 : decode M_CG_readLevels.2.1 40 = .ok (.iadd, 1) := by decide +kernel
theorem d_CG_readLevels_41 : decode M_CG_readLevels.2.1 41 = .ok (.aload_n 0, 1) := by decide +kernel
theorem d_CG_readLevels_42 : decode M_CG_readLevels.2.1 42 = .ok (.getfield 9, 3) := by decide +kernel
theorem d_CG_readLevels_45 : decode M_CG_readLevels.2.1 45 = .ok (.invokevirtual 75, 3) := by decide +kernel
theorem d_CG_readLevels_48 : decode M_CG_readLevels.2.1 48 = .ok (.aload_n 0, 1) := by decide +kernel
theorem d_CG_readLevels_49 : decode M_CG_readLevels.2.1 49 = .ok (.getfield 9, 3) := by decide +kernel
theorem d_CG_readLevels_52 : decode M_CG_readLevels.2.1 52 = .ok (.invokevirtual 55, 3) := by decide +kernel
theorem d_CG_readLevels_55 : decode M_CG_readLevels.2.1 55 = .ok (.aload_n 0, 1) := by decide +kernel
theorem d_CG_readLevels_56 : decode M_CG_readLevels.2.1 56 = .ok (.getfield 9, 3) := by decide +kernel
theorem d_CG_readLevels_59 : decode M_CG_readLevels.2.1 59 = .ok (.getfield 26, 3) := by decide +kernel
theorem d_CG_readLevels_62 : decode M_CG_readLevels.2.1 62 = .ok (.getstatic 122, 3) := by decide +kernel
theorem d_CG_readLevels_65 : decode M_CG_readLevels.2.1 65 = .ok (.if_acmp .ne 7, 3) := by decide +kernel
theorem d_CG_readLevels_68 : decode M_CG_readLevels.2.1 68 = .ok (.iload_n 3, 1) := by decide +kernel
theorem d_CG_readLevels_69 : decode M_CG_readLevels.2.1 69 = .ok (.iconst 1, 1) := by decide +kernel
theorem d_CG_readLevels_70 : decode M_CG_readLevels.2.1 70 = .ok (.iadd, 1) := by decide +kernel
theorem d_CG_readLevels_71 : decode M_CG_readLevels.2.1 71 = .ok (.ireturn, 1) := by decide +kernel
theorem d_CG_readLevels_72 : decode M_CG_readLevels.2.1 72 = .ok (.aload_n 0, 1) := by decide +kernel
theorem d_CG_readLevels_73 : decode M_CG_readLevels.2.1 73 = .ok (.getfield 9, 3) := by decide +kernel
theorem d_CG_readLevels_76 : decode M_CG_readLevels.2.1 76 = .ok (.getstatic 125, 3) := by decide +kernel
theorem d_CG_readLevels_79 : decode M_CG_readLevels.2.1 79 = .ok (.invokevirtual 128, 3) := by decide +kernel
theorem d_CG_readLevels_82 : decode M_CG_readLevels.2.1 82 = .ok (.ifCond .ne 5, 3) := by decide +kernel
theorem d_CG_readLevels_85 : decode M_CG_readLevels.2.1 85 = .ok (.iconst 0, 1) := by decide +kernel
theorem d_CG_readLevels_86 : decode M_CG_readLevels.2.1 86 = .ok (.ireturn, 1) := by decide +kernel
theorem d_CG_readLevels_87 : decode M_CG_readLevels.2.1 87 = .ok (.iinc 3 1, 3) := by decide +kernel
theorem d_CG_readLevels_90 : decode M_CG_readLevels.2.1 90 = .ok (.goto (-79), 3) := by decide +kernel
theorem d_CG_readLevels_93 : decode M_CG_readLevels.2.1 93 = .ok (.iconst 0, 1) := by decide +kernel
theorem d_CG_readLevels_94 : decode M_CG_readLevels.2.1 94 = .ok (.ireturn, 1) := by decide +kernel
theorem k_CG_readLevels : x_kV M_CG_readLevels "QuestionReader$CatalogGrammar" 1 := ⟨⟨by decide, Or.inl ⟨w_726, rfl⟩⟩, w_725, ws_24, ⟨by decide, by decide⟩, by decide +kernel⟩
def M_LX_next : x_M := (⟨"QuestionReader$Lexer", "next", "(LQuestionReader$Kind;)Z"⟩, prog_8_method_4_code, 2, some (.boolean), [])
theorem d_LX_next_0 : decode M_LX_next.2.1 0 = .ok (.aload_n 0, 1) := by decide +kernel
theorem d_LX_next_1 : decode M_LX_next.2.1 1 = .ok (.invokevirtual 94, 3) := by decide +kernel
theorem d_LX_next_4 : decode M_LX_next.2.1 4 = .ok (.aload_n 0, 1) := by decide +kernel
theorem d_LX_next_5 : decode M_LX_next.2.1 5 = .ok (.aload_n 1, 1) := by decide +kernel
theorem d_LX_next_6 : decode M_LX_next.2.1 6 = .ok (.invokevirtual 97, 3) := by decide +kernel
theorem d_LX_next_9 : decode M_LX_next.2.1 9 = .ok (.ireturn, 1) := by decide +kernel
theorem k_LX_next : x_kV M_LX_next "QuestionReader$Lexer" 1 := ⟨⟨by decide, Or.inl ⟨w_495, rfl⟩⟩, w_493, w_494, ⟨by decide, by decide⟩, by decide +kernel⟩
def M_CG_readDimension : x_M := (⟨"QuestionReader$CatalogGrammar", "readDimension", "()Z"⟩, prog_3_method_3_code, 3, some (.boolean), [])
theorem d_CG_readDimension_0 : decode M_CG_readDimension.2.1 0 = .ok (.aload_n 0, 1) := by decide +kernel
theorem d_CG_readDimension_1 : decode M_CG_readDimension.2.1 1 = .ok (.getfield 15, 3) := by decide +kernel
theorem d_CG_readDimension_4 : decode M_CG_readDimension.2.1 4 = .ok (.getfield 67, 3) := by decide +kernel
theorem d_CG_readDimension_7 : decode M_CG_readDimension.2.1 7 = .ok (.istore_n 1, 1) := by decide +kernel
theorem d_CG_readDimension_8 : decode M_CG_readDimension.2.1 8 = .ok (.aload_n 0, 1) := by decide +kernel
theorem d_CG_readDimension_9 : decode M_CG_readDimension.2.1 9 = .ok (.iload_n 1, 1) := by decide +kernel
theorem d_CG_readDimension_10 : decode M_CG_readDimension.2.1 10 = .ok (.bipush 8, 2) := by decide +kernel
theorem d_CG_readDimension_12 : decode M_CG_readDimension.2.1 12 = .ok (.if_icmp .ne 7, 3) := by decide +kernel
theorem d_CG_readDimension_15 : decode M_CG_readDimension.2.1 15 = .ok (.iconst 1, 1) := by decide +kernel
theorem d_CG_readDimension_16 : decode M_CG_readDimension.2.1 16 = .ok (.goto 4, 3) := by decide +kernel
theorem d_CG_readDimension_19 : decode M_CG_readDimension.2.1 19 = .ok (.iconst 0, 1) := by decide +kernel
theorem d_CG_readDimension_20 : decode M_CG_readDimension.2.1 20 = .ok (.invokevirtual 71, 3) := by decide +kernel
theorem d_CG_readDimension_23 : decode M_CG_readDimension.2.1 23 = .ok (.ifCond .ne 5, 3) := by decide +kernel
theorem d_CG_readDimension_26 : decode M_CG_readDimension.2.1 26 = .ok (.iconst 0, 1) := by decide +kernel
theorem d_CG_readDimension_27 : decode M_CG_readDimension.2.1 27 = .ok (.ireturn, 1) := by decide +kernel
theorem d_CG_readDimension_28 : decode M_CG_readDimension.2.1 28 = .ok (.aload_n 0, 1) := by decide +kernel
theorem d_CG_readDimension_29 : decode M_CG_readDimension.2.1 29 = .ok (.getfield 25, 3) := by decide +kernel
theorem d_CG_readDimension_32 : decode M_CG_readDimension.2.1 32 = .ok (.iload_n 1, 1) := by decide +kernel
theorem d_CG_readDimension_33 : decode M_CG_readDimension.2.1 33 = .ok (.aload_n 0, 1) := by decide +kernel
theorem d_CG_readDimension_34 : decode M_CG_readDimension.2.1 34 = .ok (.getfield 9, 3) := by decide +kernel
theorem d_CG_readDimension_37 : decode M_CG_readDimension.2.1 37 = .ok (.invokevirtual 75, 3) := by decide +kernel
theorem d_CG_readDimension_40 : decode M_CG_readDimension.2.1 40 = .ok (.aload_n 0, 1) := by decide +kernel
theorem d_CG_readDimension_41 : decode M_CG_readDimension.2.1 41 = .ok (.getfield 9, 3) := by decide +kernel
theorem d_CG_readDimension_44 : decode M_CG_readDimension.2.1 44 = .ok (.getstatic 81, 3) := by decide +kernel
theorem d_CG_readDimension_47 : decode M_CG_readDimension.2.1 47 = .ok (.invokevirtual 84, 3) := by decide +kernel
theorem d_CG_readDimension_50 : decode M_CG_readDimension.2.1 50 = .ok (.ifCond .ne 5, 3) := by decide +kernel
theorem d_CG_readDimension_53 : decode M_CG_readDimension.2.1 53 = .ok (.iconst 0, 1) := by decide +kernel
theorem d_CG_readDimension_54 : decode M_CG_readDimension.2.1 54 = .ok (.ireturn, 1) := by decide +kernel
theorem d_CG_readDimension_55 : decode M_CG_readDimension.2.1 55 = .ok (.aload_n 0, 1) := by decide +kernel
theorem d_CG_readDimension_56 : decode M_CG_readDimension.2.1 56 = .ok (.iload_n 1, 1) := by decide +kernel
theorem d_CG_readDimension_57 : decode M_CG_readDimension.2.1 57 = .ok (.invokevirtual 88, 3) := by decide +kernel
theorem d_CG_readDimension_60 : decode M_CG_readDimension.2.1 60 = .ok (.istore_n 2, 1) := by decide +kernel
theorem d_CG_readDimension_61 : decode M_CG_readDimension.2.1 61 = .ok (.iload_n 2, 1) := by decide +kernel
theorem d_CG_readDimension_62 : decode M_CG_readDimension.2.1 62 = .ok (.ifCond .eq 16, 3) := by decide +kernel
theorem d_CG_readDimension_65 : decode M_CG_readDimension.2.1 65 = .ok (.aload_n 0, 1) := by decide +kernel
theorem d_CG_readDimension_66 : decode M_CG_readDimension.2.1 66 = .ok (.getfield 9, 3) := by decide +kernel
theorem d_CG_readDimension_69 : decode M_CG_readDimension.2.1 69 = .ok (.getstatic 92, 3) := by decide +kernel
theorem d_CG_readDimension_72 : decode M_CG_readDimension.2.1 72 = .ok (.invokevirtual 84, 3) := by decide +kernel
theorem d_CG_readDimension_75 : decode M_CG_readDimension.2.1 75 = .ok (.ifCond .ne 5, 3) := by decide +kernel
theorem d_CG_readDimension_78 : decode M_CG_readDimension.2.1 78 = .ok (.iconst 0, 1) := by decide +kernel
theorem d_CG_readDimension_79 : decode M_CG_readDimension.2.1 79 = .ok (.ireturn, 1) := by decide +kernel
theorem d_CG_readDimension_80 : decode M_CG_readDimension.2.1 80 = .ok (.aload_n 0, 1) := by decide +kernel
theorem d_CG_readDimension_81 : decode M_CG_readDimension.2.1 81 = .ok (.getfield 15, 3) := by decide +kernel
theorem d_CG_readDimension_84 : decode M_CG_readDimension.2.1 84 = .ok (.getfield 95, 3) := by decide +kernel
theorem d_CG_readDimension_87 : decode M_CG_readDimension.2.1 87 = .ok (.iload_n 1, 1) := by decide +kernel
theorem d_CG_readDimension_88 : decode M_CG_readDimension.2.1 88 = .ok (.aaload, 1) := by decide +kernel
theorem d_CG_readDimension_89 : decode M_CG_readDimension.2.1 89 = .ok (.iload_n 2, 1) := by decide +kernel
theorem d_CG_readDimension_90 : decode M_CG_readDimension.2.1 90 = .ok (.putfield 99, 3) := by decide +kernel
theorem d_CG_readDimension_93 : decode M_CG_readDimension.2.1 93 = .ok (.aload_n 0, 1) := by decide +kernel
theorem d_CG_readDimension_94 : decode M_CG_readDimension.2.1 94 = .ok (.getfield 15, 3) := by decide +kernel
theorem d_CG_readDimension_97 : decode M_CG_readDimension.2.1 97 = .ok (.dup, 1) := by decide +kernel
theorem d_CG_readDimension_98 : decode M_CG_readDimension.2.1 98 = .ok (.getfield 67, 3) := by decide +kernel
theorem d_CG_readDimension_101 : decode M_CG_readDimension.2.1 101 = .ok (.iconst 1, 1) := by decide +kernel
theorem d_CG_readDimension_102 : decode M_CG_readDimension.2.1 102 = .ok (.iadd, 1) := by decide +kernel
theorem d_CG_readDimension_103 : decode M_CG_readDimension.2.1 103 = .ok (.putfield 67, 3) := by decide +kernel
theorem d_CG_readDimension_106 : decode M_CG_readDimension.2.1 106 = .ok (.iconst 1, 1) := by decide +kernel
theorem d_CG_readDimension_107 : decode M_CG_readDimension.2.1 107 = .ok (.ireturn, 1) := by decide +kernel
theorem k_CG_readDimension : x_kV M_CG_readDimension "QuestionReader$CatalogGrammar" 0 := ⟨⟨by decide, Or.inl ⟨w_703, rfl⟩⟩, w_702, ws_22, ⟨by decide, by decide⟩, by decide +kernel⟩
def M_CG_readMeasure : x_M := (⟨"QuestionReader$CatalogGrammar", "readMeasure", "()Z"⟩, prog_3_method_4_code, 1, some (.boolean), [])
theorem d_CG_readMeasure_0 : decode M_CG_readMeasure.2.1 0 = .ok (.aload_n 0, 1) := by decide +kernel
theorem d_CG_readMeasure_1 : decode M_CG_readMeasure.2.1 1 = .ok (.aload_n 0, 1) := by decide +kernel
theorem d_CG_readMeasure_2 : decode M_CG_readMeasure.2.1 2 = .ok (.getfield 15, 3) := by decide +kernel
theorem d_CG_readMeasure_5 : decode M_CG_readMeasure.2.1 5 = .ok (.getfield 104, 3) := by decide +kernel
theorem d_CG_readMeasure_8 : decode M_CG_readMeasure.2.1 8 = .ok (.bipush 8, 2) := by decide +kernel
theorem d_CG_readMeasure_10 : decode M_CG_readMeasure.2.1 10 = .ok (.if_icmp .ne 7, 3) := by decide +kernel
theorem d_CG_readMeasure_13 : decode M_CG_readMeasure.2.1 13 = .ok (.iconst 1, 1) := by decide +kernel
theorem d_CG_readMeasure_14 : decode M_CG_readMeasure.2.1 14 = .ok (.goto 4, 3) := by decide +kernel
theorem d_CG_readMeasure_17 : decode M_CG_readMeasure.2.1 17 = .ok (.iconst 0, 1) := by decide +kernel
theorem d_CG_readMeasure_18 : decode M_CG_readMeasure.2.1 18 = .ok (.invokevirtual 71, 3) := by decide +kernel
theorem d_CG_readMeasure_21 : decode M_CG_readMeasure.2.1 21 = .ok (.ifCond .ne 5, 3) := by decide +kernel
theorem d_CG_readMeasure_24 : decode M_CG_readMeasure.2.1 24 = .ok (.iconst 0, 1) := by decide +kernel
theorem d_CG_readMeasure_25 : decode M_CG_readMeasure.2.1 25 = .ok (.ireturn, 1) := by decide +kernel
theorem d_CG_readMeasure_26 : decode M_CG_readMeasure.2.1 26 = .ok (.aload_n 0, 1) := by decide +kernel
theorem d_CG_readMeasure_27 : decode M_CG_readMeasure.2.1 27 = .ok (.getfield 25, 3) := by decide +kernel
theorem d_CG_readMeasure_30 : decode M_CG_readMeasure.2.1 30 = .ok (.bipush 40, 2) := by decide +kernel
theorem d_CG_readMeasure_32 : decode M_CG_readMeasure.2.1 32 = .ok (.aload_n 0, 1) := by decide +kernel
theorem d_CG_readMeasure_33 : decode M_CG_readMeasure.2.1 33 = .ok (.getfield 15, 3) := by decide +kernel
theorem d_CG_readMeasure_36 : decode M_CG_readMeasure.2.1 36 = .ok (.getfield 104, 3) := by decide +kernel
theorem d_CG_readMeasure_39 : decode M_CG_readMeasure.2.1 39 = .ok (.iadd, 1) := by decide +kernel
theorem d_CG_readMeasure_40 : decode M_CG_readMeasure.2.1 40 = .ok (.aload_n 0, 1) := by decide +kernel
theorem d_CG_readMeasure_41 : decode M_CG_readMeasure.2.1 41 = .ok (.getfield 9, 3) := by decide +kernel
theorem d_CG_readMeasure_44 : decode M_CG_readMeasure.2.1 44 = .ok (.invokevirtual 75, 3) := by decide +kernel
theorem d_CG_readMeasure_47 : decode M_CG_readMeasure.2.1 47 = .ok (.aload_n 0, 1) := by decide +kernel
theorem d_CG_readMeasure_48 : decode M_CG_readMeasure.2.1 48 = .ok (.getfield 9, 3) := by decide +kernel
theorem d_CG_readMeasure_51 : decode M_CG_readMeasure.2.1 51 = .ok (.getstatic 92, 3) := by decide +kernel
theorem d_CG_readMeasure_54 : decode M_CG_readMeasure.2.1 54 = .ok (.invokevirtual 84, 3) := by decide +kernel
theorem d_CG_readMeasure_57 : decode M_CG_readMeasure.2.1 57 = .ok (.ifCond .ne 5, 3) := by decide +kernel
theorem d_CG_readMeasure_60 : decode M_CG_readMeasure.2.1 60 = .ok (.iconst 0, 1) := by decide +kernel
theorem d_CG_readMeasure_61 : decode M_CG_readMeasure.2.1 61 = .ok (.ireturn, 1) := by decide +kernel
theorem d_CG_readMeasure_62 : decode M_CG_readMeasure.2.1 62 = .ok (.aload_n 0, 1) := by decide +kernel
theorem d_CG_readMeasure_63 : decode M_CG_readMeasure.2.1 63 = .ok (.getfield 15, 3) := by decide +kernel
theorem d_CG_readMeasure_66 : decode M_CG_readMeasure.2.1 66 = .ok (.dup, 1) := by decide +kernel
theorem d_CG_readMeasure_67 : decode M_CG_readMeasure.2.1 67 = .ok (.getfield 104, 3) := by decide +kernel
theorem d_CG_readMeasure_70 : decode M_CG_readMeasure.2.1 70 = .ok (.iconst 1, 1) := by decide +kernel
theorem d_CG_readMeasure_71 : decode M_CG_readMeasure.2.1 71 = .ok (.iadd, 1) := by decide +kernel
theorem d_CG_readMeasure_72 : decode M_CG_readMeasure.2.1 72 = .ok (.putfield 104, 3) := by decide +kernel
theorem d_CG_readMeasure_75 : decode M_CG_readMeasure.2.1 75 = .ok (.iconst 1, 1) := by decide +kernel
theorem d_CG_readMeasure_76 : decode M_CG_readMeasure.2.1 76 = .ok (.ireturn, 1) := by decide +kernel
theorem k_CG_readMeasure : x_kV M_CG_readMeasure "QuestionReader$CatalogGrammar" 0 := ⟨⟨by decide, Or.inl ⟨w_740, rfl⟩⟩, w_739, ws_26, ⟨by decide, by decide⟩, by decide +kernel⟩
def M_DM_prepare : x_M := (⟨"QuestionReader$Dimension", "prepare", "(III)V"⟩, prog_6_method_2_code, 4, none, [])
theorem d_DM_prepare_0 : decode M_DM_prepare.2.1 0 = .ok (.iload_n 1, 1) := by decide +kernel
theorem d_DM_prepare_1 : decode M_DM_prepare.2.1 1 = .ok (.iconst 4, 1) := by decide +kernel
theorem d_DM_prepare_2 : decode M_DM_prepare.2.1 2 = .ok (.if_icmp .ge 19, 3) := by decide +kernel
theorem d_DM_prepare_5 : decode M_DM_prepare.2.1 5 = .ok (.iload_n 2, 1) := by decide +kernel
theorem d_DM_prepare_6 : decode M_DM_prepare.2.1 6 = .ok (.sipush 1000, 3) := by decide +kernel
theorem d_DM_prepare_9 : decode M_DM_prepare.2.1 9 = .ok (.if_icmp .ge 12, 3) := by decide +kernel
theorem d_DM_prepare_12 : decode M_DM_prepare.2.1 12 = .ok (.aload_n 0, 1) := by decide +kernel
theorem d_DM_prepare_13 : decode M_DM_prepare.2.1 13 = .ok (.getfield 13, 3) := by decide +kernel
theorem d_DM_prepare_16 : decode M_DM_prepare.2.1 16 = .ok (.iload_n 1, 1) := by decide +kernel
theorem d_DM_prepare_17 : decode M_DM_prepare.2.1 17 = .ok (.aaload, 1) := by decide +kernel
theorem d_DM_prepare_18 : decode M_DM_prepare.2.1 18 = .ok (.iload_n 2, 1) := by decide +kernel
theorem d_DM_prepare_19 : decode M_DM_prepare.2.1 19 = .ok (.iload_n 3, 1) := by decide +kernel
theorem d_DM_prepare_20 : decode M_DM_prepare.2.1 20 = .ok (.iastore, 1) := by decide +kernel
theorem d_DM_prepare_21 : decode M_DM_prepare.2.1 21 = .ok (.return_, 1) := by decide +kernel
theorem k_DM_prepare : x_kV M_DM_prepare "QuestionReader$Dimension" 3 := ⟨⟨by decide, Or.inl ⟨w_760, rfl⟩⟩, w_758, w_759, ⟨by decide, by decide⟩, by decide +kernel⟩
def M_CG_readValues : x_M := (⟨"QuestionReader$CatalogGrammar", "readValues", "(LQuestionReader$Dimension;I)I"⟩, prog_3_method_10_code, 4, some (.int), [])
theorem d_CG_readValues_0 : decode M_CG_readValues.2.1 0 = .ok (.iconst 0, 1) := by decide +kernel
theorem d_CG_readValues_1 : decode M_CG_readValues.2.1 1 = .ok (.istore_n 3, 1) := by decide +kernel
theorem d_CG_readValues_2 : decode M_CG_readValues.2.1 2 = .ok (.iload_n 3, 1) := by decide +kernel
theorem d_CG_readValues_3 : decode M_CG_readValues.2.1 3 = .ok (.ldc 160, 2) := by decide +kernel
theorem d_CG_readValues_5 : decode M_CG_readValues.2.1 5 = .ok (.if_icmp .gt 76, 3) := by decide +kernel
theorem d_CG_readValues_8 : decode M_CG_readValues.2.1 8 = .ok (.aload_n 0, 1) := by decide +kernel
theorem d_CG_readValues_9 : decode M_CG_readValues.2.1 9 = .ok (.getfield 9, 3) := by decide +kernel
theorem d_CG_readValues_12 : decode M_CG_readValues.2.1 12 = .ok (.getstatic 161, 3) := by decide +kernel
theorem d_CG_readValues_15 : decode M_CG_readValues.2.1 15 = .ok (.invokevirtual 84, 3) := by decide +kernel
theorem d_CG_readValues_18 : decode M_CG_readValues.2.1 18 = .ok (.ifCond .ne 5, 3) := by decide +kernel
theorem d_CG_readValues_21 : decode M_CG_readValues.2.1 21 = .ok (.iconst 0, 1) := by decide +kernel
theorem d_CG_readValues_22 : decode M_CG_readValues.2.1 22 = .ok (.ireturn, 1) := by decide +kernel
theorem d_CG_readValues_23 : decode M_CG_readValues.2.1 23 = .ok (.aload_n 1, 1) := by decide +kernel
theorem d_CG_readValues_24 : decode M_CG_readValues.2.1 24 = .ok (.iload_n 3, 1) := by decide +kernel
theorem d_CG_readValues_25 : decode M_CG_readValues.2.1 25 = .ok (.iload_n 2, 1) := by decide +kernel
theorem d_CG_readValues_26 : decode M_CG_readValues.2.1 26 = .ok (.aload_n 0, 1) := by decide +kernel
theorem d_CG_readValues_27 : decode M_CG_readValues.2.1 27 = .ok (.getfield 9, 3) := by decide +kernel
theorem d_CG_readValues_30 : decode M_CG_readValues.2.1 30 = .ok (.getfield 164, 3) := by decide +kernel
theorem d_CG_readValues_33 : decode M_CG_readValues.2.1 33 = .ok (.invokevirtual 167, 3) := by decide +kernel
theorem d_CG_readValues_36 : decode M_CG_readValues.2.1 36 = .ok (.aload_n 0, 1) := by decide +kernel
theorem d_CG_readValues_37 : decode M_CG_readValues.2.1 37 = .ok (.getfield 9, 3) := by decide +kernel
theorem d_CG_readValues_40 : decode M_CG_readValues.2.1 40 = .ok (.invokevirtual 55, 3) := by decide +kernel
theorem d_CG_readValues_43 : decode M_CG_readValues.2.1 43 = .ok (.aload_n 0, 1) := by decide +kernel
theorem d_CG_readValues_44 : decode M_CG_readValues.2.1 44 = .ok (.getfield 9, 3) := by decide +kernel
theorem d_CG_readValues_47 : decode M_CG_readValues.2.1 47 = .ok (.getfield 26, 3) := by decide +kernel
theorem d_CG_readValues_50 : decode M_CG_readValues.2.1 50 = .ok (.getstatic 122, 3) := by decide +kernel
theorem d_CG_readValues_53 : decode M_CG_readValues.2.1 53 = .ok (.if_acmp .ne 7, 3) := by decide +kernel
theorem d_CG_readValues_56 : decode M_CG_readValues.2.1 56 = .ok (.iload_n 3, 1) := by decide +kernel
theorem d_CG_readValues_57 : decode M_CG_readValues.2.1 57 = .ok (.iconst 1, 1) := by decide +kernel
theorem d_CG_readValues_58 : decode M_CG_readValues.2.1 58 = .ok (.iadd, 1) := by decide +kernel
theorem d_CG_readValues_59 : decode M_CG_readValues.2.1 59 = .ok (.ireturn, 1) := by decide +kernel
theorem d_CG_readValues_60 : decode M_CG_readValues.2.1 60 = .ok (.aload_n 0, 1) := by decide +kernel
theorem d_CG_readValues_61 : decode M_CG_readValues.2.1 61 = .ok (.getfield 9, 3) := by decide +kernel
theorem d_CG_readValues_64 : decode M_CG_readValues.2.1 64 = .ok (.getstatic 125, 3) := by decide +kernel
theorem d_CG_readValues_67 : decode M_CG_readValues.2.1 67 = .ok (.invokevirtual 128, 3) := by decide +kernel
theorem d_CG_readValues_70 : decode M_CG_readValues.2.1 70 = .ok (.ifCond .ne 5, 3) := by decide +kernel
theorem d_CG_readValues_73 : decode M_CG_readValues.2.1 73 = .ok (.iconst 0, 1) := by decide +kernel
theorem d_CG_readValues_74 : decode M_CG_readValues.2.1 74 = .ok (.ireturn, 1) := by decide +kernel
theorem d_CG_readValues_75 : decode M_CG_readValues.2.1 75 = .ok (.iinc 3 1, 3) := by decide +kernel
theorem d_CG_readValues_78 : decode M_CG_readValues.2.1 78 = .ok (.goto (-76), 3) := by decide +kernel
theorem d_CG_readValues_81 : decode M_CG_readValues.2.1 81 = .ok (.iconst 0, 1) := by decide +kernel
theorem d_CG_readValues_82 : decode M_CG_readValues.2.1 82 = .ok (.ireturn, 1) := by decide +kernel
theorem k_CG_readValues : x_kV M_CG_readValues "QuestionReader$CatalogGrammar" 2 := ⟨⟨by decide, Or.inl ⟨w_754, rfl⟩⟩, w_753, ws_29, ⟨by decide, by decide⟩, by decide +kernel⟩
def M_DM_agreeAbove : x_M := (⟨"QuestionReader$Dimension", "agreeAbove", "(III)Z"⟩, prog_6_method_10_code, 5, some (.boolean), [])
theorem d_DM_agreeAbove_0 : decode M_DM_agreeAbove.2.1 0 = .ok (.iload_n 1, 1) := by decide +kernel
theorem d_DM_agreeAbove_1 : decode M_DM_agreeAbove.2.1 1 = .ok (.iconst 1, 1) := by decide +kernel
theorem d_DM_agreeAbove_2 : decode M_DM_agreeAbove.2.1 2 = .ok (.iadd, 1) := by decide +kernel
theorem d_DM_agreeAbove_3 : decode M_DM_agreeAbove.2.1 3 = .ok (.istore 4, 2) := by decide +kernel
theorem d_DM_agreeAbove_5 : decode M_DM_agreeAbove.2.1 5 = .ok (.iload 4, 2) := by decide +kernel
theorem d_DM_agreeAbove_7 : decode M_DM_agreeAbove.2.1 7 = .ok (.aload_n 0, 1) := by decide +kernel
theorem d_DM_agreeAbove_8 : decode M_DM_agreeAbove.2.1 8 = .ok (.getfield 26, 3) := by decide +kernel
theorem d_DM_agreeAbove_11 : decode M_DM_agreeAbove.2.1 11 = .ok (.if_icmp .ge 32, 3) := by decide +kernel
theorem d_DM_agreeAbove_14 : decode M_DM_agreeAbove.2.1 14 = .ok (.aload_n 0, 1) := by decide +kernel
theorem d_DM_agreeAbove_15 : decode M_DM_agreeAbove.2.1 15 = .ok (.getfield 13, 3) := by decide +kernel
theorem d_DM_agreeAbove_18 : decode M_DM_agreeAbove.2.1 18 = .ok (.iload 4, 2) := by decide +kernel
theorem d_DM_agreeAbove_20 : decode M_DM_agreeAbove.2.1 20 = .ok (.aaload, 1) := by decide +kernel
theorem d_DM_agreeAbove_21 : decode M_DM_agreeAbove.2.1 21 = .ok (.iload_n 2, 1) := by decide +kernel
theorem d_DM_agreeAbove_22 : decode M_DM_agreeAbove.2.1 22 = .ok (.iaload, 1) := by decide +kernel
theorem d_DM_agreeAbove_23 : decode M_DM_agreeAbove.2.1 23 = .ok (.aload_n 0, 1) := by decide +kernel
theorem d_DM_agreeAbove_24 : decode M_DM_agreeAbove.2.1 24 = .ok (.getfield 13, 3) := by decide +kernel
theorem d_DM_agreeAbove_27 : decode M_DM_agreeAbove.2.1 27 = .ok (.iload 4, 2) := by decide +kernel
theorem d_DM_agreeAbove_29 : decode M_DM_agreeAbove.2.1 29 = .ok (.aaload, 1) := by decide +kernel
theorem d_DM_agreeAbove_30 : decode M_DM_agreeAbove.2.1 30 = .ok (.iload_n 3, 1) := by decide +kernel
theorem d_DM_agreeAbove_31 : decode M_DM_agreeAbove.2.1 31 = .ok (.iaload, 1) := by decide +kernel
theorem d_DM_agreeAbove_32 : decode M_DM_agreeAbove.2.1 32 = .ok (.if_icmp .eq 5, 3) := by decide +kernel
theorem d_DM_agreeAbove_35 : decode M_DM_agreeAbove.2.1 35 = .ok (.iconst 0, 1) := by decide +kernel
theorem d_DM_agreeAbove_36 : decode M_DM_agreeAbove.2.1 36 = .ok (.ireturn, 1) := by decide +kernel
theorem d_DM_agreeAbove_37 : decode M_DM_agreeAbove.2.1 37 = .ok (.iinc 4 1, 3) := by decide +kernel
theorem d_DM_agreeAbove_40 : decode M_DM_agreeAbove.2.1 40 = .ok (.goto (-35), 3) := by decide +kernel
theorem d_DM_agreeAbove_43 : decode M_DM_agreeAbove.2.1 43 = .ok (.iconst 1, 1) := by decide +kernel
theorem d_DM_agreeAbove_44 : decode M_DM_agreeAbove.2.1 44 = .ok (.ireturn, 1) := by decide +kernel
theorem k_DM_agreeAbove : x_kV M_DM_agreeAbove "QuestionReader$Dimension" 3 := ⟨⟨by decide, Or.inl ⟨w_772, rfl⟩⟩, w_771, ws_31, ⟨by decide, by decide⟩, by decide +kernel⟩
def M_DM_firstWithSame : x_M := (⟨"QuestionReader$Dimension", "firstWithSame", "(II)I"⟩, prog_6_method_9_code, 4, some (.int), [])
theorem d_DM_firstWithSame_0 : decode M_DM_firstWithSame.2.1 0 = .ok (.iconst 0, 1) := by decide +kernel
theorem d_DM_firstWithSame_1 : decode M_DM_firstWithSame.2.1 1 = .ok (.istore_n 3, 1) := by decide +kernel
theorem d_DM_firstWithSame_2 : decode M_DM_firstWithSame.2.1 2 = .ok (.iload_n 3, 1) := by decide +kernel
theorem d_DM_firstWithSame_3 : decode M_DM_firstWithSame.2.1 3 = .ok (.iload_n 2, 1) := by decide +kernel
theorem d_DM_firstWithSame_4 : decode M_DM_firstWithSame.2.1 4 = .ok (.if_icmp .ge 30, 3) := by decide +kernel
theorem d_DM_firstWithSame_7 : decode M_DM_firstWithSame.2.1 7 = .ok (.aload_n 0, 1) := by decide +kernel
theorem d_DM_firstWithSame_8 : decode M_DM_firstWithSame.2.1 8 = .ok (.getfield 13, 3) := by decide +kernel
theorem d_DM_firstWithSame_11 : decode M_DM_firstWithSame.2.1 11 = .ok (.iload_n 1, 1) := by decide +kernel
theorem d_DM_firstWithSame_12 : decode M_DM_firstWithSame.2.1 12 = .ok (.aaload, 1) := by decide +kernel
theorem d_DM_firstWithSame_13 : decode M_DM_firstWithSame.2.1 13 = .ok (.iload_n 3, 1) := by decide +kernel
theorem d_DM_firstWithSame_14 : decode M_DM_firstWithSame.2.1 14 = .ok (.iaload, 1) := by decide +kernel
theorem d_DM_firstWithSame_15 : decode M_DM_firstWithSame.2.1 15 = .ok (.aload_n 0, 1) := by decide +kernel
theorem d_DM_firstWithSame_16 : decode M_DM_firstWithSame.2.1 16 = .ok (.getfield 13, 3) := by decide +kernel
theorem d_DM_firstWithSame_19 : decode M_DM_firstWithSame.2.1 19 = .ok (.iload_n 1, 1) := by decide +kernel
theorem d_DM_firstWithSame_20 : decode M_DM_firstWithSame.2.1 20 = .ok (.aaload, 1) := by decide +kernel
theorem d_DM_firstWithSame_21 : decode M_DM_firstWithSame.2.1 21 = .ok (.iload_n 2, 1) := by decide +kernel
theorem d_DM_firstWithSame_22 : decode M_DM_firstWithSame.2.1 22 = .ok (.iaload, 1) := by decide +kernel
theorem d_DM_firstWithSame_23 : decode M_DM_firstWithSame.2.1 23 = .ok (.if_icmp .ne 5, 3) := by decide +kernel
theorem d_DM_firstWithSame_26 : decode M_DM_firstWithSame.2.1 26 = .ok (.iload_n 3, 1) := by decide +kernel
theorem d_DM_firstWithSame_27 : decode M_DM_firstWithSame.2.1 27 = .ok (.ireturn, 1) := by decide +kernel
theorem d_DM_firstWithSame_28 : decode M_DM_firstWithSame.2.1 28 = .ok (.iinc 3 1, 3) := by decide +kernel
theorem d_DM_firstWithSame_31 : decode M_DM_firstWithSame.2.1 31 = .ok (.goto (-29), 3) := by decide +kernel
theorem d_DM_firstWithSame_34 : decode M_DM_firstWithSame.2.1 34 = .ok (.iload_n 2, 1) := by decide +kernel
theorem d_DM_firstWithSame_35 : decode M_DM_firstWithSame.2.1 35 = .ok (.ireturn, 1) := by decide +kernel
theorem k_DM_firstWithSame : x_kV M_DM_firstWithSame "QuestionReader$Dimension" 2 := ⟨⟨by decide, Or.inl ⟨w_768, rfl⟩⟩, w_767, ws_30, ⟨by decide, by decide⟩, by decide +kernel⟩
def M_DM_fits : x_M := (⟨"QuestionReader$Dimension", "fits", "(I)Z"⟩, prog_6_method_3_code, 4, some (.boolean), [])
theorem d_DM_fits_0 : decode M_DM_fits.2.1 0 = .ok (.iconst 0, 1) := by decide +kernel
theorem d_DM_fits_1 : decode M_DM_fits.2.1 1 = .ok (.istore_n 2, 1) := by decide +kernel
theorem d_DM_fits_2 : decode M_DM_fits.2.1 2 = .ok (.iload_n 2, 1) := by decide +kernel
theorem d_DM_fits_3 : decode M_DM_fits.2.1 3 = .ok (.aload_n 0, 1) := by decide +kernel
theorem d_DM_fits_4 : decode M_DM_fits.2.1 4 = .ok (.getfield 26, 3) := by decide +kernel
theorem d_DM_fits_7 : decode M_DM_fits.2.1 7 = .ok (.if_icmp .ge 41, 3) := by decide +kernel
theorem d_DM_fits_10 : decode M_DM_fits.2.1 10 = .ok (.aload_n 0, 1) := by decide +kernel
theorem d_DM_fits_11 : decode M_DM_fits.2.1 11 = .ok (.iload_n 2, 1) := by decide +kernel
theorem d_DM_fits_12 : decode M_DM_fits.2.1 12 = .ok (.iload_n 1, 1) := by decide +kernel
theorem d_DM_fits_13 : decode M_DM_fits.2.1 13 = .ok (.invokevirtual 30, 3) := by decide +kernel
theorem d_DM_fits_16 : decode M_DM_fits.2.1 16 = .ok (.istore_n 3, 1) := by decide +kernel
theorem d_DM_fits_17 : decode M_DM_fits.2.1 17 = .ok (.iload_n 3, 1) := by decide +kernel
theorem d_DM_fits_18 : decode M_DM_fits.2.1 18 = .ok (.iload_n 1, 1) := by decide +kernel
theorem d_DM_fits_19 : decode M_DM_fits.2.1 19 = .ok (.if_icmp .ge 23, 3) := by decide +kernel
theorem d_DM_fits_22 : decode M_DM_fits.2.1 22 = .ok (.iload_n 2, 1) := by decide +kernel
theorem d_DM_fits_23 : decode M_DM_fits.2.1 23 = .ok (.ifCond .le 17, 3) := by decide +kernel
theorem d_DM_fits_26 : decode M_DM_fits.2.1 26 = .ok (.aload_n 0, 1) := by decide +kernel
theorem d_DM_fits_27 : decode M_DM_fits.2.1 27 = .ok (.iload_n 2, 1) := by decide +kernel
theorem d_DM_fits_28 : decode M_DM_fits.2.1 28 = .ok (.iload_n 3, 1) := by decide +kernel
theorem d_DM_fits_29 : decode M_DM_fits.2.1 29 = .ok (.iload_n 1, 1) := by decide +kernel
theorem d_DM_fits_30 : decode M_DM_fits.2.1 30 = .ok (.invokevirtual 34, 3) := by decide +kernel
theorem d_DM_fits_33 : decode M_DM_fits.2.1 33 = .ok (.ifCond .eq 7, 3) := by decide +kernel
theorem d_DM_fits_36 : decode M_DM_fits.2.1 36 = .ok (.iconst 1, 1) := by decide +kernel
theorem d_DM_fits_37 : decode M_DM_fits.2.1 37 = .ok (.goto 4, 3) := by decide +kernel
theorem d_DM_fits_40 : decode M_DM_fits.2.1 40 = .ok (.iconst 0, 1) := by decide +kernel
theorem d_DM_fits_41 : decode M_DM_fits.2.1 41 = .ok (.ireturn, 1) := by decide +kernel
theorem d_DM_fits_42 : decode M_DM_fits.2.1 42 = .ok (.iinc 2 1, 3) := by decide +kernel
theorem d_DM_fits_45 : decode M_DM_fits.2.1 45 = .ok (.goto (-43), 3) := by decide +kernel
theorem d_DM_fits_48 : decode M_DM_fits.2.1 48 = .ok (.iconst 1, 1) := by decide +kernel
theorem d_DM_fits_49 : decode M_DM_fits.2.1 49 = .ok (.ireturn, 1) := by decide +kernel
theorem k_DM_fits : x_kV M_DM_fits "QuestionReader$Dimension" 1 := ⟨⟨by decide, Or.inl ⟨w_764, rfl⟩⟩, w_762, w_763, ⟨by decide, by decide⟩, by decide +kernel⟩
def M_CG_readMember : x_M := (⟨"QuestionReader$CatalogGrammar", "readMember", "(LQuestionReader$Dimension;I)Z"⟩, prog_3_method_9_code, 5, some (.boolean), [])
theorem d_CG_readMember_0 : decode M_CG_readMember.2.1 0 = .ok (.aload_n 0, 1) := by decide +kernel
theorem d_CG_readMember_1 : decode M_CG_readMember.2.1 1 = .ok (.getfield 9, 3) := by decide +kernel
theorem d_CG_readMember_4 : decode M_CG_readMember.2.1 4 = .ok (.getfield 145, 3) := by decide +kernel
theorem d_CG_readMember_7 : decode M_CG_readMember.2.1 7 = .ok (.istore_n 3, 1) := by decide +kernel
theorem d_CG_readMember_8 : decode M_CG_readMember.2.1 8 = .ok (.iload_n 2, 1) := by decide +kernel
theorem d_CG_readMember_9 : decode M_CG_readMember.2.1 9 = .ok (.sipush 1000, 3) := by decide +kernel
theorem d_CG_readMember_12 : decode M_CG_readMember.2.1 12 = .ok (.if_icmp .lt 14, 3) := by decide +kernel
theorem d_CG_readMember_15 : decode M_CG_readMember.2.1 15 = .ok (.aload_n 0, 1) := by decide +kernel
theorem d_CG_readMember_16 : decode M_CG_readMember.2.1 16 = .ok (.getfield 9, 3) := by decide +kernel
theorem d_CG_readMember_19 : decode M_CG_readMember.2.1 19 = .ok (.bipush 7, 2) := by decide +kernel
theorem d_CG_readMember_21 : decode M_CG_readMember.2.1 21 = .ok (.iload_n 3, 1) := by decide +kernel
theorem d_CG_readMember_22 : decode M_CG_readMember.2.1 22 = .ok (.invokevirtual 148, 3) := by decide +kernel
theorem d_CG_readMember_25 : decode M_CG_readMember.2.1 25 = .ok (.ireturn, 1) := by decide +kernel
theorem d_CG_readMember_26 : decode M_CG_readMember.2.1 26 = .ok (.aload_n 0, 1) := by decide +kernel
theorem d_CG_readMember_27 : decode M_CG_readMember.2.1 27 = .ok (.aload_n 1, 1) := by decide +kernel
theorem d_CG_readMember_28 : decode M_CG_readMember.2.1 28 = .ok (.iload_n 2, 1) := by decide +kernel
theorem d_CG_readMember_29 : decode M_CG_readMember.2.1 29 = .ok (.invokevirtual 151, 3) := by decide +kernel
theorem d_CG_readMember_32 : decode M_CG_readMember.2.1 32 = .ok (.istore 4, 2) := by decide +kernel
theorem d_CG_readMember_34 : decode M_CG_readMember.2.1 34 = .ok (.iload 4, 2) := by decide +kernel
theorem d_CG_readMember_36 : decode M_CG_readMember.2.1 36 = .ok (.ifCond .ne 5, 3) := by decide +kernel
theorem d_CG_readMember_39 : decode M_CG_readMember.2.1 39 = .ok (.iconst 0, 1) := by decide +kernel
theorem d_CG_readMember_40 : decode M_CG_readMember.2.1 40 = .ok (.ireturn, 1) := by decide +kernel
theorem d_CG_readMember_41 : decode M_CG_readMember.2.1 41 = .ok (.iload 4, 2) := by decide +kernel
theorem d_CG_readMember_43 : decode M_CG_readMember.2.1 43 = .ok (.aload_n 1, 1) := by decide +kernel
theorem d_CG_readMember_44 : decode M_CG_readMember.2.1 44 = .ok (.getfield 99, 3) := by decide +kernel
theorem d_CG_readMember_47 : decode M_CG_readMember.2.1 47 = .ok (.if_icmp .eq 14, 3) := by decide +kernel
theorem d_CG_readMember_50 : decode M_CG_readMember.2.1 50 = .ok (.aload_n 0, 1) := by decide +kernel
theorem d_CG_readMember_51 : decode M_CG_readMember.2.1 51 = .ok (.getfield 9, 3) := by decide +kernel
theorem d_CG_readMember_54 : decode M_CG_readMember.2.1 54 = .ok (.bipush 7, 2) := by decide +kernel
theorem d_CG_readMember_56 : decode M_CG_readMember.2.1 56 = .ok (.iload_n 3, 1) := by decide +kernel
theorem d_CG_readMember_57 : decode M_CG_readMember.2.1 57 = .ok (.invokevirtual 148, 3) := by decide +kernel
theorem d_CG_readMember_60 : decode M_CG_readMember.2.1 60 = .ok (.ireturn, 1) := by decide +kernel
theorem d_CG_readMember_61 : decode M_CG_readMember.2.1 61 = .ok (.aload_n 1, 1) := by decide +kernel
theorem d_CG_readMember_62 : decode M_CG_readMember.2.1 62 = .ok (.iload_n 2, 1) := by decide +kernel
theorem d_CG_readMember_63 : decode M_CG_readMember.2.1 63 = .ok (.invokevirtual 155, 3) := by decide +kernel
theorem d_CG_readMember_66 : decode M_CG_readMember.2.1 66 = .ok (.ifCond .ne 16, 3) := by decide +kernel
theorem d_CG_readMember_69 : decode M_CG_readMember.2.1 69 = .ok (.aload_n 0, 1) := by decide +kernel
theorem d_CG_readMember_70 : decode M_CG_readMember.2.1 70 = .ok (.getfield 9, 3) := by decide +kernel
theorem d_CG_readMember_73 : decode M_CG_readMember.2.1 73 = .ok (.bipush 9, 2) := by decide +kernel
theorem d_CG_readMember_75 : decode M_CG_readMember.2.1 75 = .ok (.iload_n 3, 1) := by decide +kernel
theorem d_CG_readMember_76 : decode M_CG_readMember.2.1 76 = .ok (.invokevirtual 148, 3) := by decide +kernel
theorem d_CG_readMember_79 : decode M_CG_readMember.2.1 79 = .ok (.ifCond .eq 7, 3) := by decide +kernel
theorem d_CG_readMember_82 : decode M_CG_readMember.2.1 82 = .ok (.iconst 1, 1) := by decide +kernel
theorem d_CG_readMember_83 : decode M_CG_readMember.2.1 83 = .ok (.goto 4, 3) := by decide +kernel
theorem d_CG_readMember_86 : decode M_CG_readMember.2.1 86 = .ok (.iconst 0, 1) := by decide +kernel
theorem d_CG_readMember_87 : decode M_CG_readMember.2.1 87 = .ok (.ireturn, 1) := by decide +kernel
theorem k_CG_readMember : x_kV M_CG_readMember "QuestionReader$CatalogGrammar" 2 := ⟨⟨by decide, Or.inl ⟨w_749, rfl⟩⟩, w_748, ws_28, ⟨by decide, by decide⟩, by decide +kernel⟩
def M_NM_read : x_M := (⟨"QuestionReader$Names", "read", "(IILQuestionReader$Lexer;)I"⟩, prog_9_method_4_code, 5, some (.int), [])
theorem d_NM_read_0 : decode M_NM_read.2.1 0 = .ok (.aload_n 3, 1) := by decide +kernel
theorem d_NM_read_1 : decode M_NM_read.2.1 1 = .ok (.invokevirtual 43, 3) := by decide +kernel
theorem d_NM_read_4 : decode M_NM_read.2.1 4 = .ok (.ifCond .ne 5, 3) := by decide +kernel
theorem d_NM_read_7 : decode M_NM_read.2.1 7 = .ok (.iconst (-1), 1) := by decide +kernel
theorem d_NM_read_8 : decode M_NM_read.2.1 8 = .ok (.ireturn, 1) := by decide +kernel
theorem d_NM_read_9 : decode M_NM_read.2.1 9 = .ok (.aload_n 0, 1) := by decide +kernel
theorem d_NM_read_10 : decode M_NM_read.2.1 10 = .ok (.iload_n 1, 1) := by decide +kernel
theorem d_NM_read_11 : decode M_NM_read.2.1 11 = .ok (.iload_n 2, 1) := by decide +kernel
theorem d_NM_read_12 : decode M_NM_read.2.1 12 = .ok (.aload_n 3, 1) := by decide +kernel
theorem d_NM_read_13 : decode M_NM_read.2.1 13 = .ok (.invokevirtual 47, 3) := by decide +kernel
theorem d_NM_read_16 : decode M_NM_read.2.1 16 = .ok (.istore 4, 2) := by decide +kernel
theorem d_NM_read_18 : decode M_NM_read.2.1 18 = .ok (.iload 4, 2) := by decide +kernel
theorem d_NM_read_20 : decode M_NM_read.2.1 20 = .ok (.iconst (-1), 1) := by decide +kernel
theorem d_NM_read_21 : decode M_NM_read.2.1 21 = .ok (.if_icmp .ne 9, 3) := by decide +kernel
theorem d_NM_read_24 : decode M_NM_read.2.1 24 = .ok (.aload_n 3, 1) := by decide +kernel
theorem d_NM_read_25 : decode M_NM_read.2.1 25 = .ok (.iconst 5, 1) := by decide +kernel
theorem d_NM_read_26 : decode M_NM_read.2.1 26 = .ok (.invokevirtual 51, 3) := by decide +kernel
theorem d_NM_read_29 : decode M_NM_read.2.1 29 = .ok (.pop, 1) := by decide +kernel
theorem d_NM_read_30 : decode M_NM_read.2.1 30 = .ok (.iload 4, 2) := by decide +kernel
theorem d_NM_read_32 : decode M_NM_read.2.1 32 = .ok (.ireturn, 1) := by decide +kernel
theorem k_NM_read : x_kV M_NM_read "QuestionReader$Names" 3 := ⟨⟨by decide, Or.inl ⟨w_476, rfl⟩⟩, w_474, w_475, ⟨by decide, by decide⟩, by decide +kernel⟩
def M_CG_readMembers : x_M := (⟨"QuestionReader$CatalogGrammar", "readMembers", "()Z"⟩, prog_3_method_8_code, 4, some (.boolean), [])
theorem d_CG_readMembers_0 : decode M_CG_readMembers.2.1 0 = .ok (.aload_n 0, 1) := by decide +kernel
theorem d_CG_readMembers_1 : decode M_CG_readMembers.2.1 1 = .ok (.getfield 25, 3) := by decide +kernel
theorem d_CG_readMembers_4 : decode M_CG_readMembers.2.1 4 = .ok (.iconst 0, 1) := by decide +kernel
theorem d_CG_readMembers_5 : decode M_CG_readMembers.2.1 5 = .ok (.aload_n 0, 1) := by decide +kernel
theorem d_CG_readMembers_6 : decode M_CG_readMembers.2.1 6 = .ok (.getfield 15, 3) := by decide +kernel
theorem d_CG_readMembers_9 : decode M_CG_readMembers.2.1 9 = .ok (.getfield 67, 3) := by decide +kernel
theorem d_CG_readMembers_12 : decode M_CG_readMembers.2.1 12 = .ok (.aload_n 0, 1) := by decide +kernel
theorem d_CG_readMembers_13 : decode M_CG_readMembers.2.1 13 = .ok (.getfield 9, 3) := by decide +kernel
theorem d_CG_readMembers_16 : decode M_CG_readMembers.2.1 16 = .ok (.invokevirtual 135, 3) := by decide +kernel
theorem d_CG_readMembers_19 : decode M_CG_readMembers.2.1 19 = .ok (.istore_n 1, 1) := by decide +kernel
theorem d_CG_readMembers_20 : decode M_CG_readMembers.2.1 20 = .ok (.iload_n 1, 1) := by decide +kernel
theorem d_CG_readMembers_21 : decode M_CG_readMembers.2.1 21 = .ok (.iconst (-1), 1) := by decide +kernel
theorem d_CG_readMembers_22 : decode M_CG_readMembers.2.1 22 = .ok (.if_icmp .ne 5, 3) := by decide +kernel
theorem d_CG_readMembers_25 : decode M_CG_readMembers.2.1 25 = .ok (.iconst 0, 1) := by decide +kernel
theorem d_CG_readMembers_26 : decode M_CG_readMembers.2.1 26 = .ok (.ireturn, 1) := by decide +kernel
theorem d_CG_readMembers_27 : decode M_CG_readMembers.2.1 27 = .ok (.aload_n 0, 1) := by decide +kernel
theorem d_CG_readMembers_28 : decode M_CG_readMembers.2.1 28 = .ok (.getfield 15, 3) := by decide +kernel
theorem d_CG_readMembers_31 : decode M_CG_readMembers.2.1 31 = .ok (.getfield 95, 3) := by decide +kernel
theorem d_CG_readMembers_34 : decode M_CG_readMembers.2.1 34 = .ok (.iload_n 1, 1) := by decide +kernel
theorem d_CG_readMembers_35 : decode M_CG_readMembers.2.1 35 = .ok (.aaload, 1) := by decide +kernel
theorem d_CG_readMembers_36 : decode M_CG_readMembers.2.1 36 = .ok (.astore_n 2, 1) := by decide +kernel
theorem d_CG_readMembers_37 : decode M_CG_readMembers.2.1 37 = .ok (.aload_n 2, 1) := by decide +kernel
theorem d_CG_readMembers_38 : decode M_CG_readMembers.2.1 38 = .ok (.getfield 138, 3) := by decide +kernel
theorem d_CG_readMembers_41 : decode M_CG_readMembers.2.1 41 = .ok (.istore_n 3, 1) := by decide +kernel
theorem d_CG_readMembers_42 : decode M_CG_readMembers.2.1 42 = .ok (.iload_n 3, 1) := by decide +kernel
theorem d_CG_readMembers_43 : decode M_CG_readMembers.2.1 43 = .ok (.sipush 1000, 3) := by decide +kernel
theorem d_CG_readMembers_46 : decode M_CG_readMembers.2.1 46 = .ok (.if_icmp .gt 77, 3) := by decide +kernel
theorem d_CG_readMembers_49 : decode M_CG_readMembers.2.1 49 = .ok (.aload_n 0, 1) := by decide +kernel
theorem d_CG_readMembers_50 : decode M_CG_readMembers.2.1 50 = .ok (.getfield 9, 3) := by decide +kernel
theorem d_CG_readMembers_53 : decode M_CG_readMembers.2.1 53 = .ok (.getstatic 81, 3) := by decide +kernel
theorem d_CG_readMembers_56 : decode M_CG_readMembers.2.1 56 = .ok (.invokevirtual 84, 3) := by decide +kernel
theorem d_CG_readMembers_59 : decode M_CG_readMembers.2.1 59 = .ok (.ifCond .eq 12, 3) := by decide +kernel
theorem d_CG_readMembers_62 : decode M_CG_readMembers.2.1 62 = .ok (.aload_n 0, 1) := by decide +kernel
theorem d_CG_readMembers_63 : decode M_CG_readMembers.2.1 63 = .ok (.aload_n 2, 1) := by decide +kernel
theorem d_CG_readMembers_64 : decode M_CG_readMembers.2.1 64 = .ok (.iload_n 3, 1) := by decide +kernel
theorem d_CG_readMembers_65 : decode M_CG_readMembers.2.1 65 = .ok (.invokevirtual 141, 3) := by decide +kernel
theorem d_CG_readMembers_68 : decode M_CG_readMembers.2.1 68 = .ok (.ifCond .ne 5, 3) := by decide +kernel
theorem d_CG_readMembers_71 : decode M_CG_readMembers.2.1 71 = .ok (.iconst 0, 1) := by decide +kernel
theorem d_CG_readMembers_72 : decode M_CG_readMembers.2.1 72 = .ok (.ireturn, 1) := by decide +kernel
theorem d_CG_readMembers_73 : decode M_CG_readMembers.2.1 73 = .ok (.aload_n 0, 1) := by decide +kernel
theorem d_CG_readMembers_74 : decode M_CG_readMembers.2.1 74 = .ok (.getfield 9, 3) := by decide +kernel
theorem d_CG_readMembers_77 : decode M_CG_readMembers.2.1 77 = .ok (.invokevirtual 55, 3) := by decide +kernel
theorem d_CG_readMembers_80 : decode M_CG_readMembers.2.1 80 = .ok (.aload_n 0, 1) := by decide +kernel
theorem d_CG_readMembers_81 : decode M_CG_readMembers.2.1 81 = .ok (.getfield 9, 3) := by decide +kernel
theorem d_CG_readMembers_84 : decode M_CG_readMembers.2.1 84 = .ok (.getfield 26, 3) := by decide +kernel
theorem d_CG_readMembers_87 : decode M_CG_readMembers.2.1 87 = .ok (.getstatic 92, 3) := by decide +kernel
theorem d_CG_readMembers_90 : decode M_CG_readMembers.2.1 90 = .ok (.if_acmp .ne 12, 3) := by decide +kernel
theorem d_CG_readMembers_93 : decode M_CG_readMembers.2.1 93 = .ok (.aload_n 2, 1) := by decide +kernel
theorem d_CG_readMembers_94 : decode M_CG_readMembers.2.1 94 = .ok (.iload_n 3, 1) := by decide +kernel
theorem d_CG_readMembers_95 : decode M_CG_readMembers.2.1 95 = .ok (.iconst 1, 1) := by decide +kernel
theorem d_CG_readMembers_96 : decode M_CG_readMembers.2.1 96 = .ok (.iadd, 1) := by decide +kernel
theorem d_CG_readMembers_97 : decode M_CG_readMembers.2.1 97 = .ok (.putfield 138, 3) := by decide +kernel
theorem d_CG_readMembers_100 : decode M_CG_readMembers.2.1 100 = .ok (.iconst 1, 1) := by decide +kernel
theorem d_CG_readMembers_101 : decode M_CG_readMembers.2.1 101 = .ok (.ireturn, 1) := by decide +kernel
theorem d_CG_readMembers_102 : decode M_CG_readMembers.2.1 102 = .ok (.aload_n 0, 1) := by decide +kernel
theorem d_CG_readMembers_103 : decode M_CG_readMembers.2.1 103 = .ok (.getfield 9, 3) := by decide +kernel
theorem d_CG_readMembers_106 : decode M_CG_readMembers.2.1 106 = .ok (.getstatic 125, 3) := by decide +kernel
theorem d_CG_readMembers_109 : decode M_CG_readMembers.2.1 109 = .ok (.invokevirtual 128, 3) := by decide +kernel
theorem d_CG_readMembers_112 : decode M_CG_readMembers.2.1 112 = .ok (.ifCond .ne 5, 3) := by decide +kernel
theorem d_CG_readMembers_115 : decode M_CG_readMembers.2.1 115 = .ok (.iconst 0, 1) := by decide +kernel
theorem d_CG_readMembers_116 : decode M_CG_readMembers.2.1 116 = .ok (.ireturn, 1) := by decide +kernel
theorem d_CG_readMembers_117 : decode M_CG_readMembers.2.1 117 = .ok (.iinc 3 1, 3) := by decide +kernel
theorem d_CG_readMembers_120 : decode M_CG_readMembers.2.1 120 = .ok (.goto (-78), 3) := by decide +kernel
theorem d_CG_readMembers_123 : decode M_CG_readMembers.2.1 123 = .ok (.iconst 0, 1) := by decide +kernel
theorem d_CG_readMembers_124 : decode M_CG_readMembers.2.1 124 = .ok (.ireturn, 1) := by decide +kernel
theorem k_CG_readMembers : x_kV M_CG_readMembers "QuestionReader$CatalogGrammar" 0 := ⟨⟨by decide, Or.inl ⟨w_744, rfl⟩⟩, w_743, ws_27, ⟨by decide, by decide⟩, by decide +kernel⟩
def M_LX_tellUnfit : x_M := (⟨"QuestionReader$Lexer", "tellUnfit", "()Z"⟩, prog_8_method_7_code, 1, some (.boolean), [])
theorem d_LX_tellUnfit_0 : decode M_LX_tellUnfit.2.1 0 = .ok (.aload_n 0, 1) := by decide +kernel
theorem d_LX_tellUnfit_1 : decode M_LX_tellUnfit.2.1 1 = .ok (.aload_n 0, 1) := by decide +kernel
theorem d_LX_tellUnfit_2 : decode M_LX_tellUnfit.2.1 2 = .ok (.getfield 44, 3) := by decide +kernel
theorem d_LX_tellUnfit_5 : decode M_LX_tellUnfit.2.1 5 = .ok (.aload_n 0, 1) := by decide +kernel
theorem d_LX_tellUnfit_6 : decode M_LX_tellUnfit.2.1 6 = .ok (.getfield 37, 3) := by decide +kernel
theorem d_LX_tellUnfit_9 : decode M_LX_tellUnfit.2.1 9 = .ok (.invokevirtual 101, 3) := by decide +kernel
theorem d_LX_tellUnfit_12 : decode M_LX_tellUnfit.2.1 12 = .ok (.ireturn, 1) := by decide +kernel
theorem k_LX_tellUnfit : x_kV M_LX_tellUnfit "QuestionReader$Lexer" 0 := ⟨⟨by decide, Or.inl ⟨w_599, rfl⟩⟩, w_597, w_598, ⟨by decide, by decide⟩, by decide +kernel⟩
def M_CG_readStatement : x_M := (⟨"QuestionReader$CatalogGrammar", "readStatement", "()Z"⟩, prog_3_method_2_code, 2, some (.boolean), [])
theorem d_CG_readStatement_0 : decode M_CG_readStatement.2.1 0 = .ok (.aload_n 0, 1) := by decide +kernel
theorem d_CG_readStatement_1 : decode M_CG_readStatement.2.1 1 = .ok (.getfield 9, 3) := by decide +kernel
theorem d_CG_readStatement_4 : decode M_CG_readStatement.2.1 4 = .ok (.getfield 26, 3) := by decide +kernel
theorem d_CG_readStatement_7 : decode M_CG_readStatement.2.1 7 = .ok (.astore_n 1, 1) := by decide +kernel
theorem d_CG_readStatement_8 : decode M_CG_readStatement.2.1 8 = .ok (.aload_n 1, 1) := by decide +kernel
theorem d_CG_readStatement_9 : decode M_CG_readStatement.2.1 9 = .ok (.getstatic 32, 3) := by decide +kernel
theorem d_CG_readStatement_12 : decode M_CG_readStatement.2.1 12 = .ok (.if_acmp .eq 25, 3) := by decide +kernel
theorem d_CG_readStatement_15 : decode M_CG_readStatement.2.1 15 = .ok (.aload_n 1, 1) := by decide +kernel
theorem d_CG_readStatement_16 : decode M_CG_readStatement.2.1 16 = .ok (.getstatic 37, 3) := by decide +kernel
theorem d_CG_readStatement_19 : decode M_CG_readStatement.2.1 19 = .ok (.if_acmp .eq 18, 3) := by decide +kernel
theorem d_CG_readStatement_22 : decode M_CG_readStatement.2.1 22 = .ok (.aload_n 1, 1) := by decide +kernel
theorem d_CG_readStatement_23 : decode M_CG_readStatement.2.1 23 = .ok (.getstatic 40, 3) := by decide +kernel
theorem d_CG_readStatement_26 : decode M_CG_readStatement.2.1 26 = .ok (.if_acmp .eq 11, 3) := by decide +kernel
theorem d_CG_readStatement_29 : decode M_CG_readStatement.2.1 29 = .ok (.aload_n 0, 1) := by decide +kernel
theorem d_CG_readStatement_30 : decode M_CG_readStatement.2.1 30 = .ok (.getfield 9, 3) := by decide +kernel
theorem d_CG_readStatement_33 : decode M_CG_readStatement.2.1 33 = .ok (.invokevirtual 43, 3) := by decide +kernel
theorem d_CG_readStatement_36 : decode M_CG_readStatement.2.1 36 = .ok (.ireturn, 1) := by decide +kernel
theorem d_CG_readStatement_37 : decode M_CG_readStatement.2.1 37 = .ok (.aload_n 0, 1) := by decide +kernel
theorem d_CG_readStatement_38 : decode M_CG_readStatement.2.1 38 = .ok (.getfield 15, 3) := by decide +kernel
theorem d_CG_readStatement_41 : decode M_CG_readStatement.2.1 41 = .ok (.getfield 47, 3) := by decide +kernel
theorem d_CG_readStatement_44 : decode M_CG_readStatement.2.1 44 = .ok (.ifCond .eq 13, 3) := by decide +kernel
theorem d_CG_readStatement_47 : decode M_CG_readStatement.2.1 47 = .ok (.aload_n 0, 1) := by decide +kernel
theorem d_CG_readStatement_48 : decode M_CG_readStatement.2.1 48 = .ok (.getfield 9, 3) := by decide +kernel
theorem d_CG_readStatement_51 : decode M_CG_readStatement.2.1 51 = .ok (.bipush 8, 2) := by decide +kernel
theorem d_CG_readStatement_53 : decode M_CG_readStatement.2.1 53 = .ok (.invokevirtual 51, 3) := by decide +kernel
theorem d_CG_readStatement_56 : decode M_CG_readStatement.2.1 56 = .ok (.ireturn, 1) := by decide +kernel
theorem d_CG_readStatement_57 : decode M_CG_readStatement.2.1 57 = .ok (.aload_n 0, 1) := by decide +kernel
theorem d_CG_readStatement_58 : decode M_CG_readStatement.2.1 58 = .ok (.getfield 9, 3) := by decide +kernel
theorem d_CG_readStatement_61 : decode M_CG_readStatement.2.1 61 = .ok (.invokevirtual 55, 3) := by decide +kernel
theorem d_CG_readStatement_64 : decode M_CG_readStatement.2.1 64 = .ok (.aload_n 1, 1) := by decide +kernel
theorem d_CG_readStatement_65 : decode M_CG_readStatement.2.1 65 = .ok (.getstatic 32, 3) := by decide +kernel
theorem d_CG_readStatement_68 : decode M_CG_readStatement.2.1 68 = .ok (.if_acmp .ne 8, 3) := by decide +kernel
theorem d_CG_readStatement_71 : decode M_CG_readStatement.2.1 71 = .ok (.aload_n 0, 1) := by decide +kernel
theorem d_CG_readStatement_72 : decode M_CG_readStatement.2.1 72 = .ok (.invokevirtual 58, 3) := by decide +kernel
theorem d_CG_readStatement_75 : decode M_CG_readStatement.2.1 75 = .ok (.ireturn, 1) := by decide +kernel
theorem d_CG_readStatement_76 : decode M_CG_readStatement.2.1 76 = .ok (.aload_n 1, 1) := by decide +kernel
theorem d_CG_readStatement_77 : decode M_CG_readStatement.2.1 77 = .ok (.getstatic 37, 3) := by decide +kernel
theorem d_CG_readStatement_80 : decode M_CG_readStatement.2.1 80 = .ok (.if_acmp .ne 10, 3) := by decide +kernel
theorem d_CG_readStatement_83 : decode M_CG_readStatement.2.1 83 = .ok (.aload_n 0, 1) := by decide +kernel
theorem d_CG_readStatement_84 : decode M_CG_readStatement.2.1 84 = .ok (.invokevirtual 61, 3) := by decide +kernel
theorem d_CG_readStatement_87 : decode M_CG_readStatement.2.1 87 = .ok (.goto 7, 3) := by decide +kernel
theorem d_CG_readStatement_90 : decode M_CG_readStatement.2.1 90 = .ok (.aload_n 0, 1) := by decide +kernel
theorem d_CG_readStatement_91 : decode M_CG_readStatement.2.1 91 = .ok (.invokevirtual 64, 3) := by decide +kernel
theorem d_CG_readStatement_94 : decode M_CG_readStatement.2.1 94 = .ok (.ireturn, 1) := by decide +kernel
theorem k_CG_readStatement : x_kV M_CG_readStatement "QuestionReader$CatalogGrammar" 0 := ⟨⟨by decide, Or.inl ⟨w_690, rfl⟩⟩, w_688, w_689, ⟨by decide, by decide⟩, by decide +kernel⟩
def M_LX_restart : x_M := (⟨"QuestionReader$Lexer", "restart", "()V"⟩, prog_8_method_2_code, 1, none, [])
theorem d_LX_restart_0 : decode M_LX_restart.2.1 0 = .ok (.aload_n 0, 1) := by decide +kernel
theorem d_LX_restart_1 : decode M_LX_restart.2.1 1 = .ok (.iconst 0, 1) := by decide +kernel
theorem d_LX_restart_2 : decode M_LX_restart.2.1 2 = .ok (.putfield 28, 3) := by decide +kernel
theorem d_LX_restart_5 : decode M_LX_restart.2.1 5 = .ok (.aload_n 0, 1) := by decide +kernel
theorem d_LX_restart_6 : decode M_LX_restart.2.1 6 = .ok (.iconst 0, 1) := by decide +kernel
theorem d_LX_restart_7 : decode M_LX_restart.2.1 7 = .ok (.putfield 31, 3) := by decide +kernel
theorem d_LX_restart_10 : decode M_LX_restart.2.1 10 = .ok (.aload_n 0, 1) := by decide +kernel
theorem d_LX_restart_11 : decode M_LX_restart.2.1 11 = .ok (.iconst (-1), 1) := by decide +kernel
theorem d_LX_restart_12 : decode M_LX_restart.2.1 12 = .ok (.putfield 20, 3) := by decide +kernel
theorem d_LX_restart_15 : decode M_LX_restart.2.1 15 = .ok (.return_, 1) := by decide +kernel
theorem k_LX_restart : x_kV M_LX_restart "QuestionReader$Lexer" 0 := ⟨⟨by decide, Or.inl ⟨w_373, rfl⟩⟩, w_371, w_372, ⟨by decide, by decide⟩, by decide +kernel⟩
def B_LX_at_28   (s0 : Int32) (m : x_m) : Option (Int32 × x_m) := (if x_b1 s0 = true then some (s0, m) else none)
theorem b_LX_at_28 {G : x_G} {ex : Bool} {r : Int32 × x_m}   {s0 : Int32} {m : x_m} (h : B_LX_at_28 s0 m = some r) : x_W G M_LX_at (x_rd 1) (x_Q G (x_rd 1) ex (x_pi r)) ex x_np (x_hp m) 0 0 [] [.int s0] 28 := by
  unfold B_LX_at_28 at h
  obtain ⟨g_28, h⟩ := x_gd h
  cases h
  exact x_ri d_LX_at_28 rfl (x_b1_ok g_28).1
def B_LX_at_23    (m : x_m) : Option (Int32 × x_m) := B_LX_at_28 1 m
theorem b_LX_at_23 {G : x_G} {ex : Bool} {r : Int32 × x_m}    {m : x_m} (h : B_LX_at_23 m = some r) : x_W G M_LX_at (x_rd 1) (x_Q G (x_rd 1) ex (x_pi r)) ex x_np (x_hp m) 0 0 [] [] 23 := by
  unfold B_LX_at_23 at h
  refine x_iconst (v := 1) d_LX_at_23 (by decide) ?_
  refine x_goto (tgt := 28) d_LX_at_24 (by decide) ?_
  exact b_LX_at_28 h
def F_LX_at  (a1 : Nat) (m : x_m) : Option (Int32 × x_m) := (if x_kv (m.2.2.1 3 1) = true then (if x_kv a1 = true then (if (m.2.2.1 3 1) = a1 then B_LX_at_23 m else ((F_LX_tell (m.1 3 8) (m.1 3 2) m).bind fun r17 => (if r17.1 = 0 then B_LX_at_28 0 r17.2 else B_LX_at_23 r17.2))) else none) else none)
theorem c_LX_at {G : x_G} {ex : Bool} {r : Int32 × x_m}  {a1 : Nat} {m : x_m} (h : F_LX_at a1 m = some r) : x_R G M_LX_at (x_rd 1) ex [.ref 3, .ref a1] x_np (x_hp m) (x_pi r) := by
  unfold F_LX_at at h
  show x_W G M_LX_at (x_rd 1) (x_Q G (x_rd 1) ex (x_pi r)) ex x_np (x_hp m) 0 0 [(0, .ref 3), (1, .ref a1)] [] 0
  refine x_aload_n d_LX_at_0 rfl rfl ?_
  refine x_gR d_LX_at_1 (f_LX_15 rfl) sh_LX hp_LX rfl ?_
  refine x_aload_n d_LX_at_4 rfl rfl ?_
  obtain ⟨g_5_0, h⟩ := x_gd h
  obtain ⟨g_5_1, h⟩ := x_gd h
  refine x_kacmp_eq (tgt := 23) d_LX_at_5 (by decide) g_5_0 g_5_1 (fun c_ => ?_) (fun c_ => ?_)
  · replace h := x_it h c_
    refine x_sbk [] (lv2 := []) rfl ?_; exact b_LX_at_23 h
  · replace h := x_ie h c_
    refine x_aload_n d_LX_at_8 rfl rfl ?_
    refine x_aload_n d_LX_at_9 rfl rfl ?_
    refine x_gI d_LX_at_10 (f_LX_44 rfl) sh_LX hp_LX rfl ?_
    refine x_aload_n d_LX_at_13 rfl rfl ?_
    refine x_gI d_LX_at_14 (f_LX_37 rfl) sh_LX hp_LX rfl ?_
    obtain ⟨r17, e17, h⟩ := x_bd h
    refine x_cVi (M2 := M_LX_tell) (As := [.int (m.1 3 8), .int (m.1 3 2)]) (st := []) d_LX_at_17 w_438 k_LX_tell (c_LX_tell e17) rfl sh_LX hp_LX rfl ⟨Nat.le_of_ble_eq_true rfl, Nat.le_of_ble_eq_true rfl⟩ (Nat.le_of_ble_eq_true rfl) (Nat.le_of_ble_eq_true rfl) rfl ?_
    refine x_if_eq (tgt := 27) d_LX_at_20 (by decide) (fun c_ => ?_) (fun c_ => ?_)
    · replace h := x_it h c_
      refine x_iconst (v := 0) d_LX_at_27 (by decide) ?_
      refine x_sbk [] (lv2 := []) rfl ?_; exact b_LX_at_28 h
    · replace h := x_ie h c_
      refine x_sbk [] (lv2 := []) rfl ?_; exact b_LX_at_23 h
def B_NM_keep_52    (m : x_m) : Option (x_m) := some m
theorem b_NM_keep_52 {G : x_G} {ex : Bool} {r : x_m}    {m : x_m} (h : B_NM_keep_52 m = some r) : x_W G M_NM_keep (x_rd 1) (x_Q G (x_rd 1) ex (x_pv r)) ex x_np (x_hp m) 0 0 [] [] 52 := by
  unfold B_NM_keep_52 at h
  cases h
  exact x_rv d_NM_keep_52 rfl
def F_NM_keep  (a1 : Int32) (m : x_m) : Option (x_m) := (if 48 ≤ a1 then B_NM_keep_52 m else (if 40 < ((m.1 3 3) - (m.1 3 2)) then B_NM_keep_52 m else (if x_cg (m.1 3 2) (a1 * 40) ((m.1 3 3) - (m.1 3 2)) 65536 1920 = true then (if x_cb m 2 (m.1 3 2) ((m.1 3 3) - (m.1 3 2)) = true then (if x_ix a1 48 = true then B_NM_keep_52 (x_wA (x_wC m 2 6 (m.1 3 2).toNatClampNeg (a1 * 40).toNatClampNeg ((m.1 3 3) - (m.1 3 2)).toNatClampNeg) 7 a1.toNatClampNeg ((m.1 3 3) - (m.1 3 2))) else none) else none) else none)))
theorem c_NM_keep {G : x_G} {ex : Bool} {r : x_m}  {a1 : Int32} {m : x_m} (h : F_NM_keep a1 m = some r) : x_R G M_NM_keep (x_rd 1) ex [.ref 5, .int a1, .ref 3] x_np (x_hp m) (x_pv r) := by
  unfold F_NM_keep at h
  show x_W G M_NM_keep (x_rd 1) (x_Q G (x_rd 1) ex (x_pv r)) ex x_np (x_hp m) 0 0 [(0, .ref 5), (1, .int a1), (2, .ref 3)] [] 0
  refine x_aload_n d_NM_keep_0 rfl rfl ?_
  refine x_gI d_NM_keep_1 (f_NM_19 rfl) sh_LX hp_LX rfl ?_
  refine x_aload_n d_NM_keep_4 rfl rfl ?_
  refine x_gI d_NM_keep_5 (f_NM_25 rfl) sh_LX hp_LX rfl ?_
  refine x_isub d_NM_keep_8 ?_
  refine x_istore_n (lv2 := [(0, .ref 5), (1, .int a1), (2, .ref 3), (3, .int ((m.1 3 3) - (m.1 3 2)))]) d_NM_keep_9 rfl (by decide) rfl ?_
  refine x_iload_n d_NM_keep_10 rfl rfl ?_
  refine x_bipush (v := 48) d_NM_keep_11 (by decide) ?_
  refine x_icmp_ge (tgt := 52) d_NM_keep_13 (by decide) (fun c_ => ?_) (fun c_ => ?_)
  · replace h := x_it h c_
    refine x_sbk [] (lv2 := []) rfl ?_; exact b_NM_keep_52 h
  · replace h := x_ie h c_
    refine x_iload_n d_NM_keep_16 rfl rfl ?_
    refine x_bipush (v := 40) d_NM_keep_17 (by decide) ?_
    refine x_icmp_gt (tgt := 52) d_NM_keep_19 (by decide) (fun c_ => ?_) (fun c_ => ?_)
    · replace h := x_it h c_
      refine x_sbk [] (lv2 := []) rfl ?_; exact b_NM_keep_52 h
    · replace h := x_ie h c_
      refine x_aload_n d_NM_keep_22 rfl rfl ?_
      refine x_gC d_NM_keep_23 (f_NM_28 rfl) sh_LX hp_LX rfl ?_
      refine x_gC d_NM_keep_26 (f_NM_32 rfl) sh_TX hp_TX rfl ?_
      refine x_aload_n d_NM_keep_29 rfl rfl ?_
      refine x_gI d_NM_keep_30 (f_NM_25 rfl) sh_LX hp_LX rfl ?_
      refine x_aload_n d_NM_keep_33 rfl rfl ?_
      refine x_gC d_NM_keep_34 (f_NM_11 rfl) sh_NM hp_NM rfl ?_
      refine x_iload_n d_NM_keep_37 rfl rfl ?_
      refine x_bipush (v := 40) d_NM_keep_38 (by decide) ?_
      refine x_imul d_NM_keep_40 ?_
      refine x_iload_n d_NM_keep_41 rfl rfl ?_
      obtain ⟨g_42, h⟩ := x_gd h
      obtain ⟨g_42b, h⟩ := x_gd h
      refine x_cpM d_NM_keep_42 w_718 rfl rfl sa_TX_bytes ha_TX_bytes sa_NM_letters ha_NM_letters g_42 (x_cb_ok g_42b) (Nat.le_of_ble_eq_true rfl) (Nat.le_of_ble_eq_true rfl) ?_
      refine x_aload_n d_NM_keep_45 rfl rfl ?_
      refine x_gC d_NM_keep_46 (f_NM_15 rfl) sh_NM hp_NM rfl ?_
      refine x_iload_n d_NM_keep_49 rfl rfl ?_
      refine x_iload_n d_NM_keep_50 rfl rfl ?_
      obtain ⟨g_51, h⟩ := x_gd h
      refine x_sI d_NM_keep_51 rfl sa_NM_lengths ha_NM_lengths g_51 ?_
      refine x_sbk [] (lv2 := []) rfl ?_; exact b_NM_keep_52 h
def B_CG_readLevels_11   : Nat → Int32 → Int32 → x_m → Option (Int32 × x_m)
  | 0, _, _, _ => none
  | f_ + 1, l2, l3, m => (if 4 < l3 then some (0, m) else ((F_LX_advance m).bind fun r20 => ((F_CG_atNewLevel l2 l3 r20).bind fun r26 => (if r26.1 = 0 then some (0, r26.2) else ((F_NM_keep (l2 + l3) r26.2).bind fun r45 => ((F_LX_advance r45).bind fun r52 => (if x_kv (r52.2.2.1 3 1) = true then (if (r52.2.2.1 3 1) = (x_N + 6) then some (l3 + 1, r52) else ((F_LX_at (x_N + 7) r52).bind fun r79 => (if r79.1 = 0 then some (0, r79.2) else (B_CG_readLevels_11 f_) l2 (l3 + 1) r79.2))) else none)))))))
theorem b_CG_readLevels_11 {G : x_G} {ex : Bool} {r : Int32 × x_m}   : ∀ (f_ : Nat) (l2 : Int32) (l3 : Int32) (m : x_m), B_CG_readLevels_11 f_ l2 l3 m = some r → x_W G M_CG_readLevels (x_rd 3) (x_Q G (x_rd 3) ex (x_pi r)) ex x_np (x_hp m) 0 0 [(0, .ref 113), (2, .int l2), (3, .int l3)] [] 11 := by
  intro f_
  induction f_ with
  | zero => intro l2 l3 m h; exact nomatch h
  | succ f_ ih =>
    intro l2 l3 m h
    rw [B_CG_readLevels_11] at h
    have hK11 := ih
    refine x_iload_n d_CG_readLevels_11 rfl rfl ?_
    refine x_iconst (v := 4) d_CG_readLevels_12 (by decide) ?_
    refine x_icmp_gt (tgt := 93) d_CG_readLevels_13 (by decide) (fun c_ => ?_) (fun c_ => ?_)
    · replace h := x_it h c_
      refine x_iconst (v := 0) d_CG_readLevels_93 (by decide) ?_
      cases h
      exact x_ri d_CG_readLevels_94 rfl rfl
    · replace h := x_ie h c_
      refine x_aload_n d_CG_readLevels_16 rfl rfl ?_
      refine x_gC d_CG_readLevels_17 (f_CG_9 rfl) sh_CG hp_CG rfl ?_
      obtain ⟨r20, e20, h⟩ := x_bd h
      refine x_cVv (M2 := M_LX_advance) (As := []) (st := []) d_CG_readLevels_20 w_699 k_LX_advance (c_LX_advance e20) rfl sh_LX hp_LX rfl ⟨Nat.le_of_ble_eq_true rfl, Nat.le_of_ble_eq_true rfl⟩ (Nat.le_of_ble_eq_true rfl) (Nat.le_of_ble_eq_true rfl) rfl ?_
      refine x_aload_n d_CG_readLevels_23 rfl rfl ?_
      refine x_iload_n d_CG_readLevels_24 rfl rfl ?_
      refine x_iload_n d_CG_readLevels_25 rfl rfl ?_
      obtain ⟨r26, e26, h⟩ := x_bd h
      refine x_cVi (M2 := M_CG_atNewLevel) (As := [.int l2, .int l3]) (st := []) d_CG_readLevels_26 w_728 k_CG_atNewLevel (c_CG_atNewLevel e26) rfl sh_CG hp_CG rfl ⟨Nat.le_of_ble_eq_true rfl, Nat.le_of_ble_eq_true rfl⟩ (Nat.le_of_ble_eq_true rfl) (Nat.le_of_ble_eq_true rfl) rfl ?_
      refine x_if_ne (tgt := 34) d_CG_readLevels_29 (by decide) (fun c_ => ?_) (fun c_ => ?_)
      · replace h := x_ie h c_
        refine x_aload_n d_CG_readLevels_34 rfl rfl ?_
        refine x_gC d_CG_readLevels_35 (f_CG_25 rfl) sh_CG hp_CG rfl ?_
        refine x_iload_n d_CG_readLevels_38 rfl rfl ?_
        refine x_iload_n d_CG_readLevels_39 rfl rfl ?_
        refine x_iadd d_CG_readLevels_40 ?_
        refine x_aload_n d_CG_readLevels_41 rfl rfl ?_
        refine x_gC d_CG_readLevels_42 (f_CG_9 rfl) sh_CG hp_CG rfl ?_
        obtain ⟨r45, e45, h⟩ := x_bd h
        refine x_cVv (M2 := M_NM_keep) (As := [.int (l2 + l3), .ref 3]) (st := []) d_CG_readLevels_45 w_714 k_NM_keep (c_NM_keep e45) rfl sh_NM hp_NM rfl ⟨Nat.le_of_ble_eq_true rfl, Nat.le_of_ble_eq_true rfl⟩ (Nat.le_of_ble_eq_true rfl) (Nat.le_of_ble_eq_true rfl) rfl ?_
        refine x_aload_n d_CG_readLevels_48 rfl rfl ?_
        refine x_gC d_CG_readLevels_49 (f_CG_9 rfl) sh_CG hp_CG rfl ?_
        obtain ⟨r52, e52, h⟩ := x_bd h
        refine x_cVv (M2 := M_LX_advance) (As := []) (st := []) d_CG_readLevels_52 w_699 k_LX_advance (c_LX_advance e52) rfl sh_LX hp_LX rfl ⟨Nat.le_of_ble_eq_true rfl, Nat.le_of_ble_eq_true rfl⟩ (Nat.le_of_ble_eq_true rfl) (Nat.le_of_ble_eq_true rfl) rfl ?_
        refine x_aload_n d_CG_readLevels_55 rfl rfl ?_
        refine x_gC d_CG_readLevels_56 (f_CG_9 rfl) sh_CG hp_CG rfl ?_
        refine x_gR d_CG_readLevels_59 (f_CG_26 rfl) sh_LX hp_LX rfl ?_
        refine x_gets (i := 6) d_CG_readLevels_62 (by decide) w_733 ?_
        obtain ⟨g_65_0, h⟩ := x_gd h
        refine x_kacmp_ne (tgt := 72) d_CG_readLevels_65 (by decide) g_65_0 (x_kvN 6 (by decide)) (fun c_ => ?_) (fun c_ => ?_)
        · replace h := x_ie h c_
          refine x_aload_n d_CG_readLevels_72 rfl rfl ?_
          refine x_gC d_CG_readLevels_73 (f_CG_9 rfl) sh_CG hp_CG rfl ?_
          refine x_gets (i := 7) d_CG_readLevels_76 (by decide) w_734 ?_
          obtain ⟨r79, e79, h⟩ := x_bd h
          refine x_cVi (M2 := M_LX_at) (As := [.ref (x_N + 7)]) (st := []) d_CG_readLevels_79 w_735 k_LX_at (c_LX_at e79) rfl sh_LX hp_LX rfl ⟨Nat.le_of_ble_eq_true rfl, Nat.le_of_ble_eq_true rfl⟩ (Nat.le_of_ble_eq_true rfl) (Nat.le_of_ble_eq_true rfl) rfl ?_
          refine x_if_ne (tgt := 87) d_CG_readLevels_82 (by decide) (fun c_ => ?_) (fun c_ => ?_)
          · replace h := x_ie h c_
            refine x_iinc (v := l3 + 1) (lv2 := [(0, .ref 113), (2, .int l2), (3, .int (l3 + 1))]) d_CG_readLevels_87 rfl rfl (by decide) rfl ?_
            refine x_goto (tgt := 11) d_CG_readLevels_90 (by decide) ?_
            exact hK11 _ _ _ h
          · replace h := x_it h c_
            refine x_iconst (v := 0) d_CG_readLevels_85 (by decide) ?_
            cases h
            exact x_ri d_CG_readLevels_86 rfl rfl
        · replace h := x_it h c_
          refine x_iload_n d_CG_readLevels_68 rfl rfl ?_
          refine x_iconst (v := 1) d_CG_readLevels_69 (by decide) ?_
          refine x_iadd d_CG_readLevels_70 ?_
          cases h
          exact x_ri d_CG_readLevels_71 rfl rfl
      · replace h := x_it h c_
        refine x_iconst (v := 0) d_CG_readLevels_32 (by decide) ?_
        cases h
        exact x_ri d_CG_readLevels_33 rfl rfl
def F_CG_readLevels  (a1 : Int32) (m : x_m) : Option (Int32 × x_m) := ((F_CT_columnNumber a1 0 m).bind fun r4 => B_CG_readLevels_11 x_fu (8 + r4.1) 0 r4.2)
theorem c_CG_readLevels {G : x_G} {ex : Bool} {r : Int32 × x_m}  {a1 : Int32} {m : x_m} (h : F_CG_readLevels a1 m = some r) : x_R G M_CG_readLevels (x_rd 3) ex [.ref 113, .int a1] x_np (x_hp m) (x_pi r) := by
  unfold F_CG_readLevels at h
  show x_W G M_CG_readLevels (x_rd 3) (x_Q G (x_rd 3) ex (x_pi r)) ex x_np (x_hp m) 0 0 [(0, .ref 113), (1, .int a1)] [] 0
  refine x_bipush (v := 8) d_CG_readLevels_0 (by decide) ?_
  refine x_iload_n d_CG_readLevels_2 rfl rfl ?_
  refine x_iconst (v := 0) d_CG_readLevels_3 (by decide) ?_
  obtain ⟨r4, e4, h⟩ := x_bd h
  refine x_cSi (M2 := M_CT_columnNumber) (As := [.int a1, .int 0]) (st := [.int 8]) d_CG_readLevels_4 w_727 k_CT_columnNumber (c_CT_columnNumber e4) rfl ⟨Nat.le_of_ble_eq_true rfl, Nat.le_of_ble_eq_true rfl⟩ (Nat.le_of_ble_eq_true rfl) (Nat.le_of_ble_eq_true rfl) rfl ?_
  refine x_iadd d_CG_readLevels_7 ?_
  refine x_istore_n (lv2 := [(0, .ref 113), (1, .int a1), (2, .int (8 + r4.1))]) d_CG_readLevels_8 rfl (by decide) rfl ?_
  refine x_iconst (v := 0) d_CG_readLevels_9 (by decide) ?_
  refine x_istore_n (lv2 := [(0, .ref 113), (1, .int a1), (2, .int (8 + r4.1)), (3, .int 0)]) d_CG_readLevels_10 rfl (by decide) rfl ?_
  refine x_sbk [0, 2, 3] (lv2 := [(0, .ref 113), (2, .int (8 + r4.1)), (3, .int 0)]) rfl ?_; exact b_CG_readLevels_11 _ _ _ _ h
def F_LX_next  (a1 : Nat) (m : x_m) : Option (Int32 × x_m) := ((F_LX_advance m).bind fun r1 => ((F_LX_at a1 r1).bind fun r6 => (if x_b1 r6.1 = true then some (r6.1, r6.2) else none)))
theorem c_LX_next {G : x_G} {ex : Bool} {r : Int32 × x_m}  {a1 : Nat} {m : x_m} (h : F_LX_next a1 m = some r) : x_R G M_LX_next (x_rd 2) ex [.ref 3, .ref a1] x_np (x_hp m) (x_pi r) := by
  unfold F_LX_next at h
  show x_W G M_LX_next (x_rd 2) (x_Q G (x_rd 2) ex (x_pi r)) ex x_np (x_hp m) 0 0 [(0, .ref 3), (1, .ref a1)] [] 0
  refine x_aload_n d_LX_next_0 rfl rfl ?_
  obtain ⟨r1, e1, h⟩ := x_bd h
  refine x_cVv (M2 := M_LX_advance) (As := []) (st := []) d_LX_next_1 w_496 k_LX_advance (c_LX_advance e1) rfl sh_LX hp_LX rfl ⟨Nat.le_of_ble_eq_true rfl, Nat.le_of_ble_eq_true rfl⟩ (Nat.le_of_ble_eq_true rfl) (Nat.le_of_ble_eq_true rfl) rfl ?_
  refine x_aload_n d_LX_next_4 rfl rfl ?_
  refine x_aload_n d_LX_next_5 rfl rfl ?_
  obtain ⟨r6, e6, h⟩ := x_bd h
  refine x_cVi (M2 := M_LX_at) (As := [.ref a1]) (st := []) d_LX_next_6 w_497 k_LX_at (c_LX_at e6) rfl sh_LX hp_LX rfl ⟨Nat.le_of_ble_eq_true rfl, Nat.le_of_ble_eq_true rfl⟩ (Nat.le_of_ble_eq_true rfl) (Nat.le_of_ble_eq_true rfl) rfl ?_
  obtain ⟨g_9, h⟩ := x_gd h
  cases h
  exact x_ri d_LX_next_9 rfl (x_b1_ok g_9).1
def B_CG_readDimension_78    (m : x_m) : Option (Int32 × x_m) := some (0, m)
theorem b_CG_readDimension_78 {G : x_G} {ex : Bool} {r : Int32 × x_m}    {m : x_m} (h : B_CG_readDimension_78 m = some r) : x_W G M_CG_readDimension (x_rd 4) (x_Q G (x_rd 4) ex (x_pi r)) ex x_np (x_hp m) 0 0 [] [] 78 := by
  unfold B_CG_readDimension_78 at h
  refine x_iconst (v := 0) d_CG_readDimension_78 (by decide) ?_
  cases h
  exact x_ri d_CG_readDimension_79 rfl rfl
def B_CG_readDimension_20   (l1 : Int32) (s0 : Int32) (m : x_m) : Option (Int32 × x_m) := ((F_CG_atNewName s0 m).bind fun r20 => (if r20.1 = 0 then some (0, r20.2) else ((F_NM_keep l1 r20.2).bind fun r37 => ((F_LX_next (x_N + 5) r37).bind fun r47 => (if r47.1 = 0 then some (0, r47.2) else ((F_CG_readLevels l1 r47.2).bind fun r57 => (if r57.1 = 0 then B_CG_readDimension_78 r57.2 else ((F_LX_next (x_N + 8) r57.2).bind fun r72 => (if r72.1 = 0 then B_CG_readDimension_78 r72.2 else (if x_ix l1 8 = true then some (1, x_wS (x_wS r72.2 (9 + 13 * l1.toNatClampNeg) 0 r57.1) 4 2 (((x_wS r72.2 (9 + 13 * l1.toNatClampNeg) 0 r57.1).1 4 2) + 1)) else none))))))))))
theorem b_CG_readDimension_20 {G : x_G} {ex : Bool} {r : Int32 × x_m}   {l1 : Int32} {s0 : Int32} {m : x_m} (h : B_CG_readDimension_20 l1 s0 m = some r) : x_W G M_CG_readDimension (x_rd 4) (x_Q G (x_rd 4) ex (x_pi r)) ex x_np (x_hp m) 0 0 [(0, .ref 113), (1, .int l1)] [.int s0, .ref 113] 20 := by
  unfold B_CG_readDimension_20 at h
  obtain ⟨r20, e20, h⟩ := x_bd h
  refine x_cVi (M2 := M_CG_atNewName) (As := [.int s0]) (st := []) d_CG_readDimension_20 w_704 k_CG_atNewName (c_CG_atNewName e20) rfl sh_CG hp_CG rfl ⟨Nat.le_of_ble_eq_true rfl, Nat.le_of_ble_eq_true rfl⟩ (Nat.le_of_ble_eq_true rfl) (Nat.le_of_ble_eq_true rfl) rfl ?_
  refine x_if_ne (tgt := 28) d_CG_readDimension_23 (by decide) (fun c_ => ?_) (fun c_ => ?_)
  · replace h := x_ie h c_
    refine x_aload_n d_CG_readDimension_28 rfl rfl ?_
    refine x_gC d_CG_readDimension_29 (f_CG_25 rfl) sh_CG hp_CG rfl ?_
    refine x_iload_n d_CG_readDimension_32 rfl rfl ?_
    refine x_aload_n d_CG_readDimension_33 rfl rfl ?_
    refine x_gC d_CG_readDimension_34 (f_CG_9 rfl) sh_CG hp_CG rfl ?_
    obtain ⟨r37, e37, h⟩ := x_bd h
    refine x_cVv (M2 := M_NM_keep) (As := [.int l1, .ref 3]) (st := []) d_CG_readDimension_37 w_714 k_NM_keep (c_NM_keep e37) rfl sh_NM hp_NM rfl ⟨Nat.le_of_ble_eq_true rfl, Nat.le_of_ble_eq_true rfl⟩ (Nat.le_of_ble_eq_true rfl) (Nat.le_of_ble_eq_true rfl) rfl ?_
    refine x_aload_n d_CG_readDimension_40 rfl rfl ?_
    refine x_gC d_CG_readDimension_41 (f_CG_9 rfl) sh_CG hp_CG rfl ?_
    refine x_gets (i := 5) d_CG_readDimension_44 (by decide) w_721 ?_
    obtain ⟨r47, e47, h⟩ := x_bd h
    refine x_cVi (M2 := M_LX_next) (As := [.ref (x_N + 5)]) (st := []) d_CG_readDimension_47 w_722 k_LX_next (c_LX_next e47) rfl sh_LX hp_LX rfl ⟨Nat.le_of_ble_eq_true rfl, Nat.le_of_ble_eq_true rfl⟩ (Nat.le_of_ble_eq_true rfl) (Nat.le_of_ble_eq_true rfl) rfl ?_
    refine x_if_ne (tgt := 55) d_CG_readDimension_50 (by decide) (fun c_ => ?_) (fun c_ => ?_)
    · replace h := x_ie h c_
      refine x_aload_n d_CG_readDimension_55 rfl rfl ?_
      refine x_iload_n d_CG_readDimension_56 rfl rfl ?_
      obtain ⟨r57, e57, h⟩ := x_bd h
      refine x_cVi (M2 := M_CG_readLevels) (As := [.int l1]) (st := []) d_CG_readDimension_57 w_723 k_CG_readLevels (c_CG_readLevels e57) rfl sh_CG hp_CG rfl ⟨Nat.le_of_ble_eq_true rfl, Nat.le_of_ble_eq_true rfl⟩ (Nat.le_of_ble_eq_true rfl) (Nat.le_of_ble_eq_true rfl) rfl ?_
      refine x_istore_n (lv2 := [(0, .ref 113), (1, .int l1), (2, .int r57.1)]) d_CG_readDimension_60 rfl (by decide) rfl ?_
      refine x_iload_n d_CG_readDimension_61 rfl rfl ?_
      refine x_if_eq (tgt := 78) d_CG_readDimension_62 (by decide) (fun c_ => ?_) (fun c_ => ?_)
      · replace h := x_it h c_
        refine x_sbk [] (lv2 := []) rfl ?_; exact b_CG_readDimension_78 h
      · replace h := x_ie h c_
        refine x_aload_n d_CG_readDimension_65 rfl rfl ?_
        refine x_gC d_CG_readDimension_66 (f_CG_9 rfl) sh_CG hp_CG rfl ?_
        refine x_gets (i := 8) d_CG_readDimension_69 (by decide) w_736 ?_
        obtain ⟨r72, e72, h⟩ := x_bd h
        refine x_cVi (M2 := M_LX_next) (As := [.ref (x_N + 8)]) (st := []) d_CG_readDimension_72 w_722 k_LX_next (c_LX_next e72) rfl sh_LX hp_LX rfl ⟨Nat.le_of_ble_eq_true rfl, Nat.le_of_ble_eq_true rfl⟩ (Nat.le_of_ble_eq_true rfl) (Nat.le_of_ble_eq_true rfl) rfl ?_
        refine x_if_ne (tgt := 80) d_CG_readDimension_75 (by decide) (fun c_ => ?_) (fun c_ => ?_)
        · replace h := x_ie h c_
          refine x_aload_n d_CG_readDimension_80 rfl rfl ?_
          refine x_gC d_CG_readDimension_81 (f_CG_15 rfl) sh_CG hp_CG rfl ?_
          refine x_gC d_CG_readDimension_84 (f_CG_95 rfl) sh_CT hp_CT rfl ?_
          refine x_iload_n d_CG_readDimension_87 rfl rfl ?_
          obtain ⟨g_88, h⟩ := x_gd h
          refine x_lR (b := 9 + 13 * l1.toNatClampNeg) d_CG_readDimension_88 rfl sa_CT_dimensions ha_CT_dimensions g_88 (if_pos (x_ix_lt g_88)) ?_
          refine x_iload_n d_CG_readDimension_89 rfl rfl ?_
          refine x_pI d_CG_readDimension_90 (f_CG_99 rfl) tb_DM rfl (sh_DM (x_DM_of (x_ix_lt g_88))) (hp_DM (x_DM_of (x_ix_lt g_88))) rfl ⟨rfl, rfl⟩ ?_
          refine x_aload_n d_CG_readDimension_93 rfl rfl ?_
          refine x_gC d_CG_readDimension_94 (f_CG_15 rfl) sh_CG hp_CG rfl ?_
          refine x_dup d_CG_readDimension_97 rfl ?_
          refine x_gI d_CG_readDimension_98 (f_CG_67 rfl) sh_CT hp_CT rfl ?_
          refine x_iconst (v := 1) d_CG_readDimension_101 (by decide) ?_
          refine x_iadd d_CG_readDimension_102 ?_
          refine x_pI d_CG_readDimension_103 (f_CG_67 rfl) tb_CT rfl sh_CT hp_CT rfl ⟨rfl, rfl⟩ ?_
          refine x_iconst (v := 1) d_CG_readDimension_106 (by decide) ?_
          cases h
          exact x_ri d_CG_readDimension_107 rfl rfl
        · replace h := x_it h c_
          refine x_sbk [] (lv2 := []) rfl ?_; exact b_CG_readDimension_78 h
    · replace h := x_it h c_
      refine x_iconst (v := 0) d_CG_readDimension_53 (by decide) ?_
      cases h
      exact x_ri d_CG_readDimension_54 rfl rfl
  · replace h := x_it h c_
    refine x_iconst (v := 0) d_CG_readDimension_26 (by decide) ?_
    cases h
    exact x_ri d_CG_readDimension_27 rfl rfl
def F_CG_readDimension   (m : x_m) : Option (Int32 × x_m) := (if (m.1 4 2) = 8 then B_CG_readDimension_20 (m.1 4 2) 1 m else B_CG_readDimension_20 (m.1 4 2) 0 m)
theorem c_CG_readDimension {G : x_G} {ex : Bool} {r : Int32 × x_m}   {m : x_m} (h : F_CG_readDimension m = some r) : x_R G M_CG_readDimension (x_rd 4) ex [.ref 113] x_np (x_hp m) (x_pi r) := by
  unfold F_CG_readDimension at h
  show x_W G M_CG_readDimension (x_rd 4) (x_Q G (x_rd 4) ex (x_pi r)) ex x_np (x_hp m) 0 0 [(0, .ref 113)] [] 0
  refine x_aload_n d_CG_readDimension_0 rfl rfl ?_
  refine x_gC d_CG_readDimension_1 (f_CG_15 rfl) sh_CG hp_CG rfl ?_
  refine x_gI d_CG_readDimension_4 (f_CG_67 rfl) sh_CT hp_CT rfl ?_
  refine x_istore_n (lv2 := [(0, .ref 113), (1, .int (m.1 4 2))]) d_CG_readDimension_7 rfl (by decide) rfl ?_
  refine x_aload_n d_CG_readDimension_8 rfl rfl ?_
  refine x_iload_n d_CG_readDimension_9 rfl rfl ?_
  refine x_bipush (v := 8) d_CG_readDimension_10 (by decide) ?_
  refine x_icmp_ne (tgt := 19) d_CG_readDimension_12 (by decide) (fun c_ => ?_) (fun c_ => ?_)
  · replace h := x_ie h c_
    refine x_iconst (v := 0) d_CG_readDimension_19 (by decide) ?_
    exact b_CG_readDimension_20 h
  · replace h := x_it h c_
    refine x_iconst (v := 1) d_CG_readDimension_15 (by decide) ?_
    refine x_goto (tgt := 20) d_CG_readDimension_16 (by decide) ?_
    exact b_CG_readDimension_20 h
def B_CG_readMeasure_18   (s0 : Int32) (m : x_m) : Option (Int32 × x_m) := ((F_CG_atNewName s0 m).bind fun r18 => (if r18.1 = 0 then some (0, r18.2) else ((F_NM_keep (40 + (r18.2.1 4 3)) r18.2).bind fun r44 => ((F_LX_next (x_N + 8) r44).bind fun r54 => (if r54.1 = 0 then some (0, r54.2) else some (1, x_wS r54.2 4 3 ((r54.2.1 4 3) + 1)))))))
theorem b_CG_readMeasure_18 {G : x_G} {ex : Bool} {r : Int32 × x_m}   {s0 : Int32} {m : x_m} (h : B_CG_readMeasure_18 s0 m = some r) : x_W G M_CG_readMeasure (x_rd 4) (x_Q G (x_rd 4) ex (x_pi r)) ex x_np (x_hp m) 0 0 [(0, .ref 113)] [.int s0, .ref 113] 18 := by
  unfold B_CG_readMeasure_18 at h
  obtain ⟨r18, e18, h⟩ := x_bd h
  refine x_cVi (M2 := M_CG_atNewName) (As := [.int s0]) (st := []) d_CG_readMeasure_18 w_704 k_CG_atNewName (c_CG_atNewName e18) rfl sh_CG hp_CG rfl ⟨Nat.le_of_ble_eq_true rfl, Nat.le_of_ble_eq_true rfl⟩ (Nat.le_of_ble_eq_true rfl) (Nat.le_of_ble_eq_true rfl) rfl ?_
  refine x_if_ne (tgt := 26) d_CG_readMeasure_21 (by decide) (fun c_ => ?_) (fun c_ => ?_)
  · replace h := x_ie h c_
    refine x_aload_n d_CG_readMeasure_26 rfl rfl ?_
    refine x_gC d_CG_readMeasure_27 (f_CG_25 rfl) sh_CG hp_CG rfl ?_
    refine x_bipush (v := 40) d_CG_readMeasure_30 (by decide) ?_
    refine x_aload_n d_CG_readMeasure_32 rfl rfl ?_
    refine x_gC d_CG_readMeasure_33 (f_CG_15 rfl) sh_CG hp_CG rfl ?_
    refine x_gI d_CG_readMeasure_36 (f_CG_104 rfl) sh_CT hp_CT rfl ?_
    refine x_iadd d_CG_readMeasure_39 ?_
    refine x_aload_n d_CG_readMeasure_40 rfl rfl ?_
    refine x_gC d_CG_readMeasure_41 (f_CG_9 rfl) sh_CG hp_CG rfl ?_
    obtain ⟨r44, e44, h⟩ := x_bd h
    refine x_cVv (M2 := M_NM_keep) (As := [.int (40 + (r18.2.1 4 3)), .ref 3]) (st := []) d_CG_readMeasure_44 w_714 k_NM_keep (c_NM_keep e44) rfl sh_NM hp_NM rfl ⟨Nat.le_of_ble_eq_true rfl, Nat.le_of_ble_eq_true rfl⟩ (Nat.le_of_ble_eq_true rfl) (Nat.le_of_ble_eq_true rfl) rfl ?_
    refine x_aload_n d_CG_readMeasure_47 rfl rfl ?_
    refine x_gC d_CG_readMeasure_48 (f_CG_9 rfl) sh_CG hp_CG rfl ?_
    refine x_gets (i := 8) d_CG_readMeasure_51 (by decide) w_736 ?_
    obtain ⟨r54, e54, h⟩ := x_bd h
    refine x_cVi (M2 := M_LX_next) (As := [.ref (x_N + 8)]) (st := []) d_CG_readMeasure_54 w_722 k_LX_next (c_LX_next e54) rfl sh_LX hp_LX rfl ⟨Nat.le_of_ble_eq_true rfl, Nat.le_of_ble_eq_true rfl⟩ (Nat.le_of_ble_eq_true rfl) (Nat.le_of_ble_eq_true rfl) rfl ?_
    refine x_if_ne (tgt := 62) d_CG_readMeasure_57 (by decide) (fun c_ => ?_) (fun c_ => ?_)
    · replace h := x_ie h c_
      refine x_aload_n d_CG_readMeasure_62 rfl rfl ?_
      refine x_gC d_CG_readMeasure_63 (f_CG_15 rfl) sh_CG hp_CG rfl ?_
      refine x_dup d_CG_readMeasure_66 rfl ?_
      refine x_gI d_CG_readMeasure_67 (f_CG_104 rfl) sh_CT hp_CT rfl ?_
      refine x_iconst (v := 1) d_CG_readMeasure_70 (by decide) ?_
      refine x_iadd d_CG_readMeasure_71 ?_
      refine x_pI d_CG_readMeasure_72 (f_CG_104 rfl) tb_CT rfl sh_CT hp_CT rfl ⟨rfl, rfl⟩ ?_
      refine x_iconst (v := 1) d_CG_readMeasure_75 (by decide) ?_
      cases h
      exact x_ri d_CG_readMeasure_76 rfl rfl
    · replace h := x_it h c_
      refine x_iconst (v := 0) d_CG_readMeasure_60 (by decide) ?_
      cases h
      exact x_ri d_CG_readMeasure_61 rfl rfl
  · replace h := x_it h c_
    refine x_iconst (v := 0) d_CG_readMeasure_24 (by decide) ?_
    cases h
    exact x_ri d_CG_readMeasure_25 rfl rfl
def F_CG_readMeasure   (m : x_m) : Option (Int32 × x_m) := (if (m.1 4 3) = 8 then B_CG_readMeasure_18 1 m else B_CG_readMeasure_18 0 m)
theorem c_CG_readMeasure {G : x_G} {ex : Bool} {r : Int32 × x_m}   {m : x_m} (h : F_CG_readMeasure m = some r) : x_R G M_CG_readMeasure (x_rd 4) ex [.ref 113] x_np (x_hp m) (x_pi r) := by
  unfold F_CG_readMeasure at h
  show x_W G M_CG_readMeasure (x_rd 4) (x_Q G (x_rd 4) ex (x_pi r)) ex x_np (x_hp m) 0 0 [(0, .ref 113)] [] 0
  refine x_aload_n d_CG_readMeasure_0 rfl rfl ?_
  refine x_aload_n d_CG_readMeasure_1 rfl rfl ?_
  refine x_gC d_CG_readMeasure_2 (f_CG_15 rfl) sh_CG hp_CG rfl ?_
  refine x_gI d_CG_readMeasure_5 (f_CG_104 rfl) sh_CT hp_CT rfl ?_
  refine x_bipush (v := 8) d_CG_readMeasure_8 (by decide) ?_
  refine x_icmp_ne (tgt := 17) d_CG_readMeasure_10 (by decide) (fun c_ => ?_) (fun c_ => ?_)
  · replace h := x_ie h c_
    refine x_iconst (v := 0) d_CG_readMeasure_17 (by decide) ?_
    exact b_CG_readMeasure_18 h
  · replace h := x_it h c_
    refine x_iconst (v := 1) d_CG_readMeasure_13 (by decide) ?_
    refine x_goto (tgt := 18) d_CG_readMeasure_14 (by decide) ?_
    exact b_CG_readMeasure_18 h
def B_DM_prepare_21 (p : Nat)   (m : x_m) : Option (x_m) := some m
theorem b_DM_prepare_21 {G : x_G} {ex : Bool} {r : x_m} {p : Nat} (hp : x_DM p)   {m : x_m} (h : B_DM_prepare_21 p m = some r) : x_W G M_DM_prepare (x_rd 0) (x_Q G (x_rd 0) ex (x_pv r)) ex x_np (x_hp m) 0 0 [] [] 21 := by
  unfold B_DM_prepare_21 at h
  cases h
  exact x_rv d_DM_prepare_21 rfl
def F_DM_prepare (p : Nat) (a1 : Int32) (a2 : Int32) (a3 : Int32) (m : x_m) : Option (x_m) := (if 4 ≤ a1 then B_DM_prepare_21 p m else (if 1000 ≤ a2 then B_DM_prepare_21 p m else (if x_ix a1 4 = true then (if x_ix a2 1000 = true then B_DM_prepare_21 p (x_wA m (p + 2 + a1.toNatClampNeg) a2.toNatClampNeg a3) else none) else none)))
theorem c_DM_prepare {G : x_G} {ex : Bool} {r : x_m} {p : Nat} (hp : x_DM p) {a1 : Int32} {a2 : Int32} {a3 : Int32} {m : x_m} (h : F_DM_prepare p a1 a2 a3 m = some r) : x_R G M_DM_prepare (x_rd 0) ex [.ref p, .int a1, .int a2, .int a3] x_np (x_hp m) (x_pv r) := by
  unfold F_DM_prepare at h
  show x_W G M_DM_prepare (x_rd 0) (x_Q G (x_rd 0) ex (x_pv r)) ex x_np (x_hp m) 0 0 [(0, .ref p), (1, .int a1), (2, .int a2), (3, .int a3)] [] 0
  refine x_iload_n d_DM_prepare_0 rfl rfl ?_
  refine x_iconst (v := 4) d_DM_prepare_1 (by decide) ?_
  refine x_icmp_ge (tgt := 21) d_DM_prepare_2 (by decide) (fun c_ => ?_) (fun c_ => ?_)
  · replace h := x_it h c_
    refine x_sbk [] (lv2 := []) rfl ?_; exact b_DM_prepare_21 hp h
  · replace h := x_ie h c_
    refine x_iload_n d_DM_prepare_5 rfl rfl ?_
    refine x_sipush (v := 1000) d_DM_prepare_6 (by decide) ?_
    refine x_icmp_ge (tgt := 21) d_DM_prepare_9 (by decide) (fun c_ => ?_) (fun c_ => ?_)
    · replace h := x_it h c_
      refine x_sbk [] (lv2 := []) rfl ?_; exact b_DM_prepare_21 hp h
    · replace h := x_ie h c_
      refine x_aload_n d_DM_prepare_12 rfl rfl ?_
      refine x_gC d_DM_prepare_13 (f_DM_13 rfl) (sh_DM hp) (hp_DM hp) rfl ?_
      refine x_iload_n d_DM_prepare_16 rfl rfl ?_
      obtain ⟨g_17, h⟩ := x_gd h
      refine x_lA (b := p + 2 + a1.toNatClampNeg) d_DM_prepare_17 rfl (sa_DM_values hp) (ha_DM_values hp) g_17 (if_pos (x_ix_lt g_17)) ?_
      refine x_iload_n d_DM_prepare_18 rfl rfl ?_
      refine x_iload_n d_DM_prepare_19 rfl rfl ?_
      obtain ⟨g_20, h⟩ := x_gd h
      refine x_sI d_DM_prepare_20 rfl (sa_DM_vrow hp (x_ix_lt g_17)) (ha_DM_vrow hp (x_ix_lt g_17)) g_20 ?_
      refine x_sbk [] (lv2 := []) rfl ?_; exact b_DM_prepare_21 hp h
def B_CG_readValues_2 (q1 : Nat)  : Nat → Int32 → Int32 → x_m → Option (Int32 × x_m)
  | 0, _, _, _ => none
  | f_ + 1, l2, l3, m => (if 65536 < l3 then some (0, m) else ((F_LX_next (x_N + 2) m).bind fun r15 => (if r15.1 = 0 then some (0, r15.2) else ((F_DM_prepare q1 l3 l2 (r15.2.1 3 4) r15.2).bind fun r33 => ((F_LX_advance r33).bind fun r40 => (if x_kv (r40.2.2.1 3 1) = true then (if (r40.2.2.1 3 1) = (x_N + 6) then some (l3 + 1, r40) else ((F_LX_at (x_N + 7) r40).bind fun r67 => (if r67.1 = 0 then some (0, r67.2) else (B_CG_readValues_2 q1 f_) l2 (l3 + 1) r67.2))) else none))))))
theorem b_CG_readValues_2 {G : x_G} {ex : Bool} {r : Int32 × x_m} {q1 : Nat} (hq1 : x_DM q1)  : ∀ (f_ : Nat) (l2 : Int32) (l3 : Int32) (m : x_m), B_CG_readValues_2 q1 f_ l2 l3 m = some r → x_W G M_CG_readValues (x_rd 3) (x_Q G (x_rd 3) ex (x_pi r)) ex x_np (x_hp m) 0 0 [(0, .ref 113), (1, .ref q1), (2, .int l2), (3, .int l3)] [] 2 := by
  intro f_
  induction f_ with
  | zero => intro l2 l3 m h; exact nomatch h
  | succ f_ ih =>
    intro l2 l3 m h
    rw [B_CG_readValues_2] at h
    have hK2 := ih
    refine x_iload_n d_CG_readValues_2 rfl rfl ?_
    refine x_ldc (v := 65536) d_CG_readValues_3 w_755 ?_
    refine x_icmp_gt (tgt := 81) d_CG_readValues_5 (by decide) (fun c_ => ?_) (fun c_ => ?_)
    · replace h := x_it h c_
      refine x_iconst (v := 0) d_CG_readValues_81 (by decide) ?_
      cases h
      exact x_ri d_CG_readValues_82 rfl rfl
    · replace h := x_ie h c_
      refine x_aload_n d_CG_readValues_8 rfl rfl ?_
      refine x_gC d_CG_readValues_9 (f_CG_9 rfl) sh_CG hp_CG rfl ?_
      refine x_gets (i := 2) d_CG_readValues_12 (by decide) w_756 ?_
      obtain ⟨r15, e15, h⟩ := x_bd h
      refine x_cVi (M2 := M_LX_next) (As := [.ref (x_N + 2)]) (st := []) d_CG_readValues_15 w_722 k_LX_next (c_LX_next e15) rfl sh_LX hp_LX rfl ⟨Nat.le_of_ble_eq_true rfl, Nat.le_of_ble_eq_true rfl⟩ (Nat.le_of_ble_eq_true rfl) (Nat.le_of_ble_eq_true rfl) rfl ?_
      refine x_if_ne (tgt := 23) d_CG_readValues_18 (by decide) (fun c_ => ?_) (fun c_ => ?_)
      · replace h := x_ie h c_
        refine x_aload_n d_CG_readValues_23 rfl rfl ?_
        refine x_iload_n d_CG_readValues_24 rfl rfl ?_
        refine x_iload_n d_CG_readValues_25 rfl rfl ?_
        refine x_aload_n d_CG_readValues_26 rfl rfl ?_
        refine x_gC d_CG_readValues_27 (f_CG_9 rfl) sh_CG hp_CG rfl ?_
        refine x_gI d_CG_readValues_30 (f_CG_164 rfl) sh_LX hp_LX rfl ?_
        obtain ⟨r33, e33, h⟩ := x_bd h
        refine x_cVv (M2 := M_DM_prepare) (As := [.int l3, .int l2, .int (r15.2.1 3 4)]) (st := []) d_CG_readValues_33 w_757 k_DM_prepare (c_DM_prepare hq1 e33) rfl (sh_DM hq1) (hp_DM hq1) rfl ⟨Nat.le_of_ble_eq_true rfl, Nat.le_of_ble_eq_true rfl⟩ (Nat.le_of_ble_eq_true rfl) (Nat.le_of_ble_eq_true rfl) rfl ?_
        refine x_aload_n d_CG_readValues_36 rfl rfl ?_
        refine x_gC d_CG_readValues_37 (f_CG_9 rfl) sh_CG hp_CG rfl ?_
        obtain ⟨r40, e40, h⟩ := x_bd h
        refine x_cVv (M2 := M_LX_advance) (As := []) (st := []) d_CG_readValues_40 w_699 k_LX_advance (c_LX_advance e40) rfl sh_LX hp_LX rfl ⟨Nat.le_of_ble_eq_true rfl, Nat.le_of_ble_eq_true rfl⟩ (Nat.le_of_ble_eq_true rfl) (Nat.le_of_ble_eq_true rfl) rfl ?_
        refine x_aload_n d_CG_readValues_43 rfl rfl ?_
        refine x_gC d_CG_readValues_44 (f_CG_9 rfl) sh_CG hp_CG rfl ?_
        refine x_gR d_CG_readValues_47 (f_CG_26 rfl) sh_LX hp_LX rfl ?_
        refine x_gets (i := 6) d_CG_readValues_50 (by decide) w_733 ?_
        obtain ⟨g_53_0, h⟩ := x_gd h
        refine x_kacmp_ne (tgt := 60) d_CG_readValues_53 (by decide) g_53_0 (x_kvN 6 (by decide)) (fun c_ => ?_) (fun c_ => ?_)
        · replace h := x_ie h c_
          refine x_aload_n d_CG_readValues_60 rfl rfl ?_
          refine x_gC d_CG_readValues_61 (f_CG_9 rfl) sh_CG hp_CG rfl ?_
          refine x_gets (i := 7) d_CG_readValues_64 (by decide) w_734 ?_
          obtain ⟨r67, e67, h⟩ := x_bd h
          refine x_cVi (M2 := M_LX_at) (As := [.ref (x_N + 7)]) (st := []) d_CG_readValues_67 w_735 k_LX_at (c_LX_at e67) rfl sh_LX hp_LX rfl ⟨Nat.le_of_ble_eq_true rfl, Nat.le_of_ble_eq_true rfl⟩ (Nat.le_of_ble_eq_true rfl) (Nat.le_of_ble_eq_true rfl) rfl ?_
          refine x_if_ne (tgt := 75) d_CG_readValues_70 (by decide) (fun c_ => ?_) (fun c_ => ?_)
          · replace h := x_ie h c_
            refine x_iinc (v := l3 + 1) (lv2 := [(0, .ref 113), (1, .ref q1), (2, .int l2), (3, .int (l3 + 1))]) d_CG_readValues_75 rfl rfl (by decide) rfl ?_
            refine x_goto (tgt := 2) d_CG_readValues_78 (by decide) ?_
            exact hK2 _ _ _ h
          · replace h := x_it h c_
            refine x_iconst (v := 0) d_CG_readValues_73 (by decide) ?_
            cases h
            exact x_ri d_CG_readValues_74 rfl rfl
        · replace h := x_it h c_
          refine x_iload_n d_CG_readValues_56 rfl rfl ?_
          refine x_iconst (v := 1) d_CG_readValues_57 (by decide) ?_
          refine x_iadd d_CG_readValues_58 ?_
          cases h
          exact x_ri d_CG_readValues_59 rfl rfl
      · replace h := x_it h c_
        refine x_iconst (v := 0) d_CG_readValues_21 (by decide) ?_
        cases h
        exact x_ri d_CG_readValues_22 rfl rfl
def F_CG_readValues (q1 : Nat) (a2 : Int32) (m : x_m) : Option (Int32 × x_m) := B_CG_readValues_2 q1 x_fu a2 0 m
theorem c_CG_readValues {G : x_G} {ex : Bool} {r : Int32 × x_m} {q1 : Nat} (hq1 : x_DM q1) {a2 : Int32} {m : x_m} (h : F_CG_readValues q1 a2 m = some r) : x_R G M_CG_readValues (x_rd 3) ex [.ref 113, .ref q1, .int a2] x_np (x_hp m) (x_pi r) := by
  unfold F_CG_readValues at h
  show x_W G M_CG_readValues (x_rd 3) (x_Q G (x_rd 3) ex (x_pi r)) ex x_np (x_hp m) 0 0 [(0, .ref 113), (1, .ref q1), (2, .int a2)] [] 0
  refine x_iconst (v := 0) d_CG_readValues_0 (by decide) ?_
  refine x_istore_n (lv2 := [(0, .ref 113), (1, .ref q1), (2, .int a2), (3, .int 0)]) d_CG_readValues_1 rfl (by decide) rfl ?_
  exact b_CG_readValues_2 hq1 _ _ _ _ h
def B_DM_agreeAbove_5 (p : Nat)  : Nat → Int32 → Int32 → Int32 → x_m → Option (Int32 × x_m)
  | 0, _, _, _, _ => none
  | f_ + 1, l2, l3, l4, m => (if (m.1 p 0) ≤ l4 then some (1, m) else (if x_ix l4 4 = true then (if x_ix l2 1000 = true then (if x_ix l4 4 = true then (if x_ix l3 1000 = true then (if (m.2.1 (p + 2 + l4.toNatClampNeg) l2.toNatClampNeg) = (m.2.1 (p + 2 + l4.toNatClampNeg) l3.toNatClampNeg) then (B_DM_agreeAbove_5 p f_) l2 l3 (l4 + 1) m else some (0, m)) else none) else none) else none) else none))
theorem b_DM_agreeAbove_5 {G : x_G} {ex : Bool} {r : Int32 × x_m} {p : Nat} (hp : x_DM p)  : ∀ (f_ : Nat) (l2 : Int32) (l3 : Int32) (l4 : Int32) (m : x_m), B_DM_agreeAbove_5 p f_ l2 l3 l4 m = some r → x_W G M_DM_agreeAbove (x_rd 0) (x_Q G (x_rd 0) ex (x_pi r)) ex x_np (x_hp m) 0 0 [(0, .ref p), (2, .int l2), (3, .int l3), (4, .int l4)] [] 5 := by
  intro f_
  induction f_ with
  | zero => intro l2 l3 l4 m h; exact nomatch h
  | succ f_ ih =>
    intro l2 l3 l4 m h
    rw [B_DM_agreeAbove_5] at h
    have hK5 := ih
    refine x_iload d_DM_agreeAbove_5 rfl ?_
    refine x_aload_n d_DM_agreeAbove_7 rfl rfl ?_
    refine x_gI d_DM_agreeAbove_8 (f_DM_26 rfl) (sh_DM hp) (hp_DM hp) rfl ?_
    refine x_icmp_ge (tgt := 43) d_DM_agreeAbove_11 (by decide) (fun c_ => ?_) (fun c_ => ?_)
    · replace h := x_it h c_
      refine x_iconst (v := 1) d_DM_agreeAbove_43 (by decide) ?_
      cases h
      exact x_ri d_DM_agreeAbove_44 rfl rfl
    · replace h := x_ie h c_
      refine x_aload_n d_DM_agreeAbove_14 rfl rfl ?_
      refine x_gC d_DM_agreeAbove_15 (f_DM_13 rfl) (sh_DM hp) (hp_DM hp) rfl ?_
      refine x_iload d_DM_agreeAbove_18 rfl ?_
      obtain ⟨g_20, h⟩ := x_gd h
      refine x_lA (b := p + 2 + l4.toNatClampNeg) d_DM_agreeAbove_20 rfl (sa_DM_values hp) (ha_DM_values hp) g_20 (if_pos (x_ix_lt g_20)) ?_
      refine x_iload_n d_DM_agreeAbove_21 rfl rfl ?_
      obtain ⟨g_22, h⟩ := x_gd h
      refine x_lI d_DM_agreeAbove_22 rfl (sa_DM_vrow hp (x_ix_lt g_20)) (ha_DM_vrow hp (x_ix_lt g_20)) g_22 ?_
      refine x_aload_n d_DM_agreeAbove_23 rfl rfl ?_
      refine x_gC d_DM_agreeAbove_24 (f_DM_13 rfl) (sh_DM hp) (hp_DM hp) rfl ?_
      refine x_iload d_DM_agreeAbove_27 rfl ?_
      obtain ⟨g_29, h⟩ := x_gd h
      refine x_lA (b := p + 2 + l4.toNatClampNeg) d_DM_agreeAbove_29 rfl (sa_DM_values hp) (ha_DM_values hp) g_29 (if_pos (x_ix_lt g_29)) ?_
      refine x_iload_n d_DM_agreeAbove_30 rfl rfl ?_
      obtain ⟨g_31, h⟩ := x_gd h
      refine x_lI d_DM_agreeAbove_31 rfl (sa_DM_vrow hp (x_ix_lt g_29)) (ha_DM_vrow hp (x_ix_lt g_29)) g_31 ?_
      refine x_icmp_eq (tgt := 37) d_DM_agreeAbove_32 (by decide) (fun c_ => ?_) (fun c_ => ?_)
      · replace h := x_it h c_
        refine x_iinc (v := l4 + 1) (lv2 := [(0, .ref p), (2, .int l2), (3, .int l3), (4, .int (l4 + 1))]) d_DM_agreeAbove_37 rfl rfl (by decide) rfl ?_
        refine x_goto (tgt := 5) d_DM_agreeAbove_40 (by decide) ?_
        exact hK5 _ _ _ _ h
      · replace h := x_ie h c_
        refine x_iconst (v := 0) d_DM_agreeAbove_35 (by decide) ?_
        cases h
        exact x_ri d_DM_agreeAbove_36 rfl rfl
def F_DM_agreeAbove (p : Nat) (a1 : Int32) (a2 : Int32) (a3 : Int32) (m : x_m) : Option (Int32 × x_m) := B_DM_agreeAbove_5 p x_fu a2 a3 (a1 + 1) m
theorem c_DM_agreeAbove {G : x_G} {ex : Bool} {r : Int32 × x_m} {p : Nat} (hp : x_DM p) {a1 : Int32} {a2 : Int32} {a3 : Int32} {m : x_m} (h : F_DM_agreeAbove p a1 a2 a3 m = some r) : x_R G M_DM_agreeAbove (x_rd 0) ex [.ref p, .int a1, .int a2, .int a3] x_np (x_hp m) (x_pi r) := by
  unfold F_DM_agreeAbove at h
  show x_W G M_DM_agreeAbove (x_rd 0) (x_Q G (x_rd 0) ex (x_pi r)) ex x_np (x_hp m) 0 0 [(0, .ref p), (1, .int a1), (2, .int a2), (3, .int a3)] [] 0
  refine x_iload_n d_DM_agreeAbove_0 rfl rfl ?_
  refine x_iconst (v := 1) d_DM_agreeAbove_1 (by decide) ?_
  refine x_iadd d_DM_agreeAbove_2 ?_
  refine x_istore (lv2 := [(0, .ref p), (1, .int a1), (2, .int a2), (3, .int a3), (4, .int (a1 + 1))]) d_DM_agreeAbove_3 (by decide) rfl ?_
  refine x_sbk [0, 2, 3, 4] (lv2 := [(0, .ref p), (2, .int a2), (3, .int a3), (4, .int (a1 + 1))]) rfl ?_; exact b_DM_agreeAbove_5 hp _ _ _ _ _ h
def B_DM_firstWithSame_2 (p : Nat)  : Nat → Int32 → Int32 → Int32 → x_m → Option (Int32 × x_m)
  | 0, _, _, _, _ => none
  | f_ + 1, l1, l2, l3, m => (if l2 ≤ l3 then some (l2, m) else (if x_ix l1 4 = true then (if x_ix l3 1000 = true then (if x_ix l1 4 = true then (if x_ix l2 1000 = true then (if (m.2.1 (p + 2 + l1.toNatClampNeg) l3.toNatClampNeg) = (m.2.1 (p + 2 + l1.toNatClampNeg) l2.toNatClampNeg) then some (l3, m) else (B_DM_firstWithSame_2 p f_) l1 l2 (l3 + 1) m) else none) else none) else none) else none))
theorem b_DM_firstWithSame_2 {G : x_G} {ex : Bool} {r : Int32 × x_m} {p : Nat} (hp : x_DM p)  : ∀ (f_ : Nat) (l1 : Int32) (l2 : Int32) (l3 : Int32) (m : x_m), B_DM_firstWithSame_2 p f_ l1 l2 l3 m = some r → x_W G M_DM_firstWithSame (x_rd 0) (x_Q G (x_rd 0) ex (x_pi r)) ex x_np (x_hp m) 0 0 [(0, .ref p), (1, .int l1), (2, .int l2), (3, .int l3)] [] 2 := by
  intro f_
  induction f_ with
  | zero => intro l1 l2 l3 m h; exact nomatch h
  | succ f_ ih =>
    intro l1 l2 l3 m h
    rw [B_DM_firstWithSame_2] at h
    have hK2 := ih
    refine x_iload_n d_DM_firstWithSame_2 rfl rfl ?_
    refine x_iload_n d_DM_firstWithSame_3 rfl rfl ?_
    refine x_icmp_ge (tgt := 34) d_DM_firstWithSame_4 (by decide) (fun c_ => ?_) (fun c_ => ?_)
    · replace h := x_it h c_
      refine x_iload_n d_DM_firstWithSame_34 rfl rfl ?_
      cases h
      exact x_ri d_DM_firstWithSame_35 rfl rfl
    · replace h := x_ie h c_
      refine x_aload_n d_DM_firstWithSame_7 rfl rfl ?_
      refine x_gC d_DM_firstWithSame_8 (f_DM_13 rfl) (sh_DM hp) (hp_DM hp) rfl ?_
      refine x_iload_n d_DM_firstWithSame_11 rfl rfl ?_
      obtain ⟨g_12, h⟩ := x_gd h
      refine x_lA (b := p + 2 + l1.toNatClampNeg) d_DM_firstWithSame_12 rfl (sa_DM_values hp) (ha_DM_values hp) g_12 (if_pos (x_ix_lt g_12)) ?_
      refine x_iload_n d_DM_firstWithSame_13 rfl rfl ?_
      obtain ⟨g_14, h⟩ := x_gd h
      refine x_lI d_DM_firstWithSame_14 rfl (sa_DM_vrow hp (x_ix_lt g_12)) (ha_DM_vrow hp (x_ix_lt g_12)) g_14 ?_
      refine x_aload_n d_DM_firstWithSame_15 rfl rfl ?_
      refine x_gC d_DM_firstWithSame_16 (f_DM_13 rfl) (sh_DM hp) (hp_DM hp) rfl ?_
      refine x_iload_n d_DM_firstWithSame_19 rfl rfl ?_
      obtain ⟨g_20, h⟩ := x_gd h
      refine x_lA (b := p + 2 + l1.toNatClampNeg) d_DM_firstWithSame_20 rfl (sa_DM_values hp) (ha_DM_values hp) g_20 (if_pos (x_ix_lt g_20)) ?_
      refine x_iload_n d_DM_firstWithSame_21 rfl rfl ?_
      obtain ⟨g_22, h⟩ := x_gd h
      refine x_lI d_DM_firstWithSame_22 rfl (sa_DM_vrow hp (x_ix_lt g_20)) (ha_DM_vrow hp (x_ix_lt g_20)) g_22 ?_
      refine x_icmp_ne (tgt := 28) d_DM_firstWithSame_23 (by decide) (fun c_ => ?_) (fun c_ => ?_)
      · replace h := x_ie h c_
        refine x_iinc (v := l3 + 1) (lv2 := [(0, .ref p), (1, .int l1), (2, .int l2), (3, .int (l3 + 1))]) d_DM_firstWithSame_28 rfl rfl (by decide) rfl ?_
        refine x_goto (tgt := 2) d_DM_firstWithSame_31 (by decide) ?_
        exact hK2 _ _ _ _ h
      · replace h := x_it h c_
        refine x_iload_n d_DM_firstWithSame_26 rfl rfl ?_
        cases h
        exact x_ri d_DM_firstWithSame_27 rfl rfl
def F_DM_firstWithSame (p : Nat) (a1 : Int32) (a2 : Int32) (m : x_m) : Option (Int32 × x_m) := B_DM_firstWithSame_2 p x_fu a1 a2 0 m
theorem c_DM_firstWithSame {G : x_G} {ex : Bool} {r : Int32 × x_m} {p : Nat} (hp : x_DM p) {a1 : Int32} {a2 : Int32} {m : x_m} (h : F_DM_firstWithSame p a1 a2 m = some r) : x_R G M_DM_firstWithSame (x_rd 0) ex [.ref p, .int a1, .int a2] x_np (x_hp m) (x_pi r) := by
  unfold F_DM_firstWithSame at h
  show x_W G M_DM_firstWithSame (x_rd 0) (x_Q G (x_rd 0) ex (x_pi r)) ex x_np (x_hp m) 0 0 [(0, .ref p), (1, .int a1), (2, .int a2)] [] 0
  refine x_iconst (v := 0) d_DM_firstWithSame_0 (by decide) ?_
  refine x_istore_n (lv2 := [(0, .ref p), (1, .int a1), (2, .int a2), (3, .int 0)]) d_DM_firstWithSame_1 rfl (by decide) rfl ?_
  exact b_DM_firstWithSame_2 hp _ _ _ _ _ h
def B_DM_fits_41 (p : Nat)  (s0 : Int32) (m : x_m) : Option (Int32 × x_m) := (if x_b1 s0 = true then some (s0, m) else none)
theorem b_DM_fits_41 {G : x_G} {ex : Bool} {r : Int32 × x_m} {p : Nat} (hp : x_DM p)  {s0 : Int32} {m : x_m} (h : B_DM_fits_41 p s0 m = some r) : x_W G M_DM_fits (x_rd 1) (x_Q G (x_rd 1) ex (x_pi r)) ex x_np (x_hp m) 0 0 [] [.int s0] 41 := by
  unfold B_DM_fits_41 at h
  obtain ⟨g_41, h⟩ := x_gd h
  cases h
  exact x_ri d_DM_fits_41 rfl (x_b1_ok g_41).1
def B_DM_fits_40 (p : Nat)   (m : x_m) : Option (Int32 × x_m) := B_DM_fits_41 p 0 m
theorem b_DM_fits_40 {G : x_G} {ex : Bool} {r : Int32 × x_m} {p : Nat} (hp : x_DM p)   {m : x_m} (h : B_DM_fits_40 p m = some r) : x_W G M_DM_fits (x_rd 1) (x_Q G (x_rd 1) ex (x_pi r)) ex x_np (x_hp m) 0 0 [] [] 40 := by
  unfold B_DM_fits_40 at h
  refine x_iconst (v := 0) d_DM_fits_40 (by decide) ?_
  exact b_DM_fits_41 hp h
def B_DM_fits_2 (p : Nat)  : Nat → Int32 → Int32 → x_m → Option (Int32 × x_m)
  | 0, _, _, _ => none
  | f_ + 1, l1, l2, m => (if (m.1 p 0) ≤ l2 then some (1, m) else ((F_DM_firstWithSame p l2 l1 m).bind fun r13 => (if l1 ≤ r13.1 then (B_DM_fits_2 p f_) l1 (l2 + 1) r13.2 else (if l2 ≤ 0 then B_DM_fits_40 p r13.2 else ((F_DM_agreeAbove p l2 r13.1 l1 r13.2).bind fun r30 => (if r30.1 = 0 then B_DM_fits_40 p r30.2 else B_DM_fits_41 p 1 r30.2))))))
theorem b_DM_fits_2 {G : x_G} {ex : Bool} {r : Int32 × x_m} {p : Nat} (hp : x_DM p)  : ∀ (f_ : Nat) (l1 : Int32) (l2 : Int32) (m : x_m), B_DM_fits_2 p f_ l1 l2 m = some r → x_W G M_DM_fits (x_rd 1) (x_Q G (x_rd 1) ex (x_pi r)) ex x_np (x_hp m) 0 0 [(0, .ref p), (1, .int l1), (2, .int l2)] [] 2 := by
  intro f_
  induction f_ with
  | zero => intro l1 l2 m h; exact nomatch h
  | succ f_ ih =>
    intro l1 l2 m h
    rw [B_DM_fits_2] at h
    have hK2 := ih
    refine x_iload_n d_DM_fits_2 rfl rfl ?_
    refine x_aload_n d_DM_fits_3 rfl rfl ?_
    refine x_gI d_DM_fits_4 (f_DM_26 rfl) (sh_DM hp) (hp_DM hp) rfl ?_
    refine x_icmp_ge (tgt := 48) d_DM_fits_7 (by decide) (fun c_ => ?_) (fun c_ => ?_)
    · replace h := x_it h c_
      refine x_iconst (v := 1) d_DM_fits_48 (by decide) ?_
      cases h
      exact x_ri d_DM_fits_49 rfl rfl
    · replace h := x_ie h c_
      refine x_aload_n d_DM_fits_10 rfl rfl ?_
      refine x_iload_n d_DM_fits_11 rfl rfl ?_
      refine x_iload_n d_DM_fits_12 rfl rfl ?_
      obtain ⟨r13, e13, h⟩ := x_bd h
      refine x_cVi (M2 := M_DM_firstWithSame) (As := [.int l2, .int l1]) (st := []) d_DM_fits_13 w_765 k_DM_firstWithSame (c_DM_firstWithSame hp e13) rfl (sh_DM hp) (hp_DM hp) rfl ⟨Nat.le_of_ble_eq_true rfl, Nat.le_of_ble_eq_true rfl⟩ (Nat.le_of_ble_eq_true rfl) (Nat.le_of_ble_eq_true rfl) rfl ?_
      refine x_istore_n (lv2 := [(0, .ref p), (1, .int l1), (2, .int l2), (3, .int r13.1)]) d_DM_fits_16 rfl (by decide) rfl ?_
      refine x_iload_n d_DM_fits_17 rfl rfl ?_
      refine x_iload_n d_DM_fits_18 rfl rfl ?_
      refine x_icmp_ge (tgt := 42) d_DM_fits_19 (by decide) (fun c_ => ?_) (fun c_ => ?_)
      · replace h := x_it h c_
        refine x_iinc (v := l2 + 1) (lv2 := [(0, .ref p), (1, .int l1), (2, .int (l2 + 1)), (3, .int r13.1)]) d_DM_fits_42 rfl rfl (by decide) rfl ?_
        refine x_goto (tgt := 2) d_DM_fits_45 (by decide) ?_
        refine x_sbk [0, 1, 2] (lv2 := [(0, .ref p), (1, .int l1), (2, .int (l2 + 1))]) rfl ?_; exact hK2 _ _ _ h
      · replace h := x_ie h c_
        refine x_iload_n d_DM_fits_22 rfl rfl ?_
        refine x_if_le (tgt := 40) d_DM_fits_23 (by decide) (fun c_ => ?_) (fun c_ => ?_)
        · replace h := x_it h c_
          refine x_sbk [] (lv2 := []) rfl ?_; exact b_DM_fits_40 hp h
        · replace h := x_ie h c_
          refine x_aload_n d_DM_fits_26 rfl rfl ?_
          refine x_iload_n d_DM_fits_27 rfl rfl ?_
          refine x_iload_n d_DM_fits_28 rfl rfl ?_
          refine x_iload_n d_DM_fits_29 rfl rfl ?_
          obtain ⟨r30, e30, h⟩ := x_bd h
          refine x_cVi (M2 := M_DM_agreeAbove) (As := [.int l2, .int r13.1, .int l1]) (st := []) d_DM_fits_30 w_769 k_DM_agreeAbove (c_DM_agreeAbove hp e30) rfl (sh_DM hp) (hp_DM hp) rfl ⟨Nat.le_of_ble_eq_true rfl, Nat.le_of_ble_eq_true rfl⟩ (Nat.le_of_ble_eq_true rfl) (Nat.le_of_ble_eq_true rfl) rfl ?_
          refine x_if_eq (tgt := 40) d_DM_fits_33 (by decide) (fun c_ => ?_) (fun c_ => ?_)
          · replace h := x_it h c_
            refine x_sbk [] (lv2 := []) rfl ?_; exact b_DM_fits_40 hp h
          · replace h := x_ie h c_
            refine x_iconst (v := 1) d_DM_fits_36 (by decide) ?_
            refine x_goto (tgt := 41) d_DM_fits_37 (by decide) ?_
            refine x_sbk [] (lv2 := []) rfl ?_; exact b_DM_fits_41 hp h
def F_DM_fits (p : Nat) (a1 : Int32) (m : x_m) : Option (Int32 × x_m) := B_DM_fits_2 p x_fu a1 0 m
theorem c_DM_fits {G : x_G} {ex : Bool} {r : Int32 × x_m} {p : Nat} (hp : x_DM p) {a1 : Int32} {m : x_m} (h : F_DM_fits p a1 m = some r) : x_R G M_DM_fits (x_rd 1) ex [.ref p, .int a1] x_np (x_hp m) (x_pi r) := by
  unfold F_DM_fits at h
  show x_W G M_DM_fits (x_rd 1) (x_Q G (x_rd 1) ex (x_pi r)) ex x_np (x_hp m) 0 0 [(0, .ref p), (1, .int a1)] [] 0
  refine x_iconst (v := 0) d_DM_fits_0 (by decide) ?_
  refine x_istore_n (lv2 := [(0, .ref p), (1, .int a1), (2, .int 0)]) d_DM_fits_1 rfl (by decide) rfl ?_
  exact b_DM_fits_2 hp _ _ _ _ h
def B_CG_readMember_87 (q1 : Nat)  (s0 : Int32) (m : x_m) : Option (Int32 × x_m) := (if x_b1 s0 = true then some (s0, m) else none)
theorem b_CG_readMember_87 {G : x_G} {ex : Bool} {r : Int32 × x_m} {q1 : Nat} (hq1 : x_DM q1)  {s0 : Int32} {m : x_m} (h : B_CG_readMember_87 q1 s0 m = some r) : x_W G M_CG_readMember (x_rd 4) (x_Q G (x_rd 4) ex (x_pi r)) ex x_np (x_hp m) 0 0 [] [.int s0] 87 := by
  unfold B_CG_readMember_87 at h
  obtain ⟨g_87, h⟩ := x_gd h
  cases h
  exact x_ri d_CG_readMember_87 rfl (x_b1_ok g_87).1
def B_CG_readMember_82 (q1 : Nat)   (m : x_m) : Option (Int32 × x_m) := B_CG_readMember_87 q1 1 m
theorem b_CG_readMember_82 {G : x_G} {ex : Bool} {r : Int32 × x_m} {q1 : Nat} (hq1 : x_DM q1)   {m : x_m} (h : B_CG_readMember_82 q1 m = some r) : x_W G M_CG_readMember (x_rd 4) (x_Q G (x_rd 4) ex (x_pi r)) ex x_np (x_hp m) 0 0 [] [] 82 := by
  unfold B_CG_readMember_82 at h
  refine x_iconst (v := 1) d_CG_readMember_82 (by decide) ?_
  refine x_goto (tgt := 87) d_CG_readMember_83 (by decide) ?_
  exact b_CG_readMember_87 hq1 h
def F_CG_readMember (q1 : Nat) (a2 : Int32) (m : x_m) : Option (Int32 × x_m) := (if a2 < 1000 then ((F_CG_readValues q1 a2 m).bind fun r29 => (if r29.1 = 0 then some (0, r29.2) else (if r29.1 = (r29.2.1 q1 0) then ((F_DM_fits q1 a2 r29.2).bind fun r63 => (if r63.1 = 0 then ((F_LX_tell 9 (m.1 3 2) r63.2).bind fun r76 => (if r76.1 = 0 then B_CG_readMember_87 q1 0 r76.2 else B_CG_readMember_82 q1 r76.2)) else B_CG_readMember_82 q1 r63.2)) else ((F_LX_tell 7 (m.1 3 2) r29.2).bind fun r57 => (if x_b1 r57.1 = true then some (r57.1, r57.2) else none))))) else ((F_LX_tell 7 (m.1 3 2) m).bind fun r22 => (if x_b1 r22.1 = true then some (r22.1, r22.2) else none)))
theorem c_CG_readMember {G : x_G} {ex : Bool} {r : Int32 × x_m} {q1 : Nat} (hq1 : x_DM q1) {a2 : Int32} {m : x_m} (h : F_CG_readMember q1 a2 m = some r) : x_R G M_CG_readMember (x_rd 4) ex [.ref 113, .ref q1, .int a2] x_np (x_hp m) (x_pi r) := by
  unfold F_CG_readMember at h
  show x_W G M_CG_readMember (x_rd 4) (x_Q G (x_rd 4) ex (x_pi r)) ex x_np (x_hp m) 0 0 [(0, .ref 113), (1, .ref q1), (2, .int a2)] [] 0
  refine x_aload_n d_CG_readMember_0 rfl rfl ?_
  refine x_gC d_CG_readMember_1 (f_CG_9 rfl) sh_CG hp_CG rfl ?_
  refine x_gI d_CG_readMember_4 (f_CG_145 rfl) sh_LX hp_LX rfl ?_
  refine x_istore_n (lv2 := [(0, .ref 113), (1, .ref q1), (2, .int a2), (3, .int (m.1 3 2))]) d_CG_readMember_7 rfl (by decide) rfl ?_
  refine x_iload_n d_CG_readMember_8 rfl rfl ?_
  refine x_sipush (v := 1000) d_CG_readMember_9 (by decide) ?_
  refine x_icmp_lt (tgt := 26) d_CG_readMember_12 (by decide) (fun c_ => ?_) (fun c_ => ?_)
  · replace h := x_it h c_
    refine x_aload_n d_CG_readMember_26 rfl rfl ?_
    refine x_aload_n d_CG_readMember_27 rfl rfl ?_
    refine x_iload_n d_CG_readMember_28 rfl rfl ?_
    obtain ⟨r29, e29, h⟩ := x_bd h
    refine x_cVi (M2 := M_CG_readValues) (As := [.ref q1, .int a2]) (st := []) d_CG_readMember_29 w_751 k_CG_readValues (c_CG_readValues hq1 e29) rfl sh_CG hp_CG rfl ⟨Nat.le_of_ble_eq_true rfl, Nat.le_of_ble_eq_true rfl⟩ (Nat.le_of_ble_eq_true rfl) (Nat.le_of_ble_eq_true rfl) rfl ?_
    refine x_istore (lv2 := [(0, .ref 113), (1, .ref q1), (2, .int a2), (3, .int (m.1 3 2)), (4, .int r29.1)]) d_CG_readMember_32 (by decide) rfl ?_
    refine x_iload d_CG_readMember_34 rfl ?_
    refine x_if_ne (tgt := 41) d_CG_readMember_36 (by decide) (fun c_ => ?_) (fun c_ => ?_)
    · replace h := x_ie h c_
      refine x_iload d_CG_readMember_41 rfl ?_
      refine x_aload_n d_CG_readMember_43 rfl rfl ?_
      refine x_gI d_CG_readMember_44 (f_CG_99 rfl) (sh_DM hq1) (hp_DM hq1) rfl ?_
      refine x_icmp_eq (tgt := 61) d_CG_readMember_47 (by decide) (fun c_ => ?_) (fun c_ => ?_)
      · replace h := x_it h c_
        refine x_aload_n d_CG_readMember_61 rfl rfl ?_
        refine x_iload_n d_CG_readMember_62 rfl rfl ?_
        obtain ⟨r63, e63, h⟩ := x_bd h
        refine x_cVi (M2 := M_DM_fits) (As := [.int a2]) (st := []) d_CG_readMember_63 w_761 k_DM_fits (c_DM_fits hq1 e63) rfl (sh_DM hq1) (hp_DM hq1) rfl ⟨Nat.le_of_ble_eq_true rfl, Nat.le_of_ble_eq_true rfl⟩ (Nat.le_of_ble_eq_true rfl) (Nat.le_of_ble_eq_true rfl) rfl ?_
        refine x_if_ne (tgt := 82) d_CG_readMember_66 (by decide) (fun c_ => ?_) (fun c_ => ?_)
        · replace h := x_ie h c_
          refine x_sbk [] (lv2 := []) rfl ?_; exact b_CG_readMember_82 hq1 h
        · replace h := x_it h c_
          refine x_aload_n d_CG_readMember_69 rfl rfl ?_
          refine x_gC d_CG_readMember_70 (f_CG_9 rfl) sh_CG hp_CG rfl ?_
          refine x_bipush (v := 9) d_CG_readMember_73 (by decide) ?_
          refine x_iload_n d_CG_readMember_75 rfl rfl ?_
          obtain ⟨r76, e76, h⟩ := x_bd h
          refine x_cVi (M2 := M_LX_tell) (As := [.int 9, .int (m.1 3 2)]) (st := []) d_CG_readMember_76 w_750 k_LX_tell (c_LX_tell e76) rfl sh_LX hp_LX rfl ⟨Nat.le_of_ble_eq_true rfl, Nat.le_of_ble_eq_true rfl⟩ (Nat.le_of_ble_eq_true rfl) (Nat.le_of_ble_eq_true rfl) rfl ?_
          refine x_if_eq (tgt := 86) d_CG_readMember_79 (by decide) (fun c_ => ?_) (fun c_ => ?_)
          · replace h := x_it h c_
            refine x_iconst (v := 0) d_CG_readMember_86 (by decide) ?_
            refine x_sbk [] (lv2 := []) rfl ?_; exact b_CG_readMember_87 hq1 h
          · replace h := x_ie h c_
            refine x_sbk [] (lv2 := []) rfl ?_; exact b_CG_readMember_82 hq1 h
      · replace h := x_ie h c_
        refine x_aload_n d_CG_readMember_50 rfl rfl ?_
        refine x_gC d_CG_readMember_51 (f_CG_9 rfl) sh_CG hp_CG rfl ?_
        refine x_bipush (v := 7) d_CG_readMember_54 (by decide) ?_
        refine x_iload_n d_CG_readMember_56 rfl rfl ?_
        obtain ⟨r57, e57, h⟩ := x_bd h
        refine x_cVi (M2 := M_LX_tell) (As := [.int 7, .int (m.1 3 2)]) (st := []) d_CG_readMember_57 w_750 k_LX_tell (c_LX_tell e57) rfl sh_LX hp_LX rfl ⟨Nat.le_of_ble_eq_true rfl, Nat.le_of_ble_eq_true rfl⟩ (Nat.le_of_ble_eq_true rfl) (Nat.le_of_ble_eq_true rfl) rfl ?_
        obtain ⟨g_60, h⟩ := x_gd h
        cases h
        exact x_ri d_CG_readMember_60 rfl (x_b1_ok g_60).1
    · replace h := x_it h c_
      refine x_iconst (v := 0) d_CG_readMember_39 (by decide) ?_
      cases h
      exact x_ri d_CG_readMember_40 rfl rfl
  · replace h := x_ie h c_
    refine x_aload_n d_CG_readMember_15 rfl rfl ?_
    refine x_gC d_CG_readMember_16 (f_CG_9 rfl) sh_CG hp_CG rfl ?_
    refine x_bipush (v := 7) d_CG_readMember_19 (by decide) ?_
    refine x_iload_n d_CG_readMember_21 rfl rfl ?_
    obtain ⟨r22, e22, h⟩ := x_bd h
    refine x_cVi (M2 := M_LX_tell) (As := [.int 7, .int (m.1 3 2)]) (st := []) d_CG_readMember_22 w_750 k_LX_tell (c_LX_tell e22) rfl sh_LX hp_LX rfl ⟨Nat.le_of_ble_eq_true rfl, Nat.le_of_ble_eq_true rfl⟩ (Nat.le_of_ble_eq_true rfl) (Nat.le_of_ble_eq_true rfl) rfl ?_
    obtain ⟨g_25, h⟩ := x_gd h
    cases h
    exact x_ri d_CG_readMember_25 rfl (x_b1_ok g_25).1
def B_NM_read_30   (l4 : Int32) (m : x_m) : Option (Int32 × x_m) := some (l4, m)
theorem b_NM_read_30 {G : x_G} {ex : Bool} {r : Int32 × x_m}   {l4 : Int32} {m : x_m} (h : B_NM_read_30 l4 m = some r) : x_W G M_NM_read (x_rd 2) (x_Q G (x_rd 2) ex (x_pi r)) ex x_np (x_hp m) 0 0 [(4, .int l4)] [] 30 := by
  unfold B_NM_read_30 at h
  refine x_iload d_NM_read_30 rfl ?_
  cases h
  exact x_ri d_NM_read_32 rfl rfl
def F_NM_read  (a1 : Int32) (a2 : Int32) (m : x_m) : Option (Int32 × x_m) := ((F_LX_atName m).bind fun r1 => (if r1.1 = 0 then some ((-1), r1.2) else ((F_NM_search a1 a2 r1.2).bind fun r13 => (if r13.1 = ((-1)) then ((F_LX_tellHere 5 r13.2).bind fun r26 => B_NM_read_30 r13.1 r26.2) else B_NM_read_30 r13.1 r13.2))))
theorem c_NM_read {G : x_G} {ex : Bool} {r : Int32 × x_m}  {a1 : Int32} {a2 : Int32} {m : x_m} (h : F_NM_read a1 a2 m = some r) : x_R G M_NM_read (x_rd 2) ex [.ref 5, .int a1, .int a2, .ref 3] x_np (x_hp m) (x_pi r) := by
  unfold F_NM_read at h
  show x_W G M_NM_read (x_rd 2) (x_Q G (x_rd 2) ex (x_pi r)) ex x_np (x_hp m) 0 0 [(0, .ref 5), (1, .int a1), (2, .int a2), (3, .ref 3)] [] 0
  refine x_aload_n d_NM_read_0 rfl rfl ?_
  obtain ⟨r1, e1, h⟩ := x_bd h
  refine x_cVi (M2 := M_LX_atName) (As := []) (st := []) d_NM_read_1 w_477 k_LX_atName (c_LX_atName e1) rfl sh_LX hp_LX rfl ⟨Nat.le_of_ble_eq_true rfl, Nat.le_of_ble_eq_true rfl⟩ (Nat.le_of_ble_eq_true rfl) (Nat.le_of_ble_eq_true rfl) rfl ?_
  refine x_if_ne (tgt := 9) d_NM_read_4 (by decide) (fun c_ => ?_) (fun c_ => ?_)
  · replace h := x_ie h c_
    refine x_aload_n d_NM_read_9 rfl rfl ?_
    refine x_iload_n d_NM_read_10 rfl rfl ?_
    refine x_iload_n d_NM_read_11 rfl rfl ?_
    refine x_aload_n d_NM_read_12 rfl rfl ?_
    obtain ⟨r13, e13, h⟩ := x_bd h
    refine x_cVi (M2 := M_NM_search) (As := [.int a1, .int a2, .ref 3]) (st := []) d_NM_read_13 w_481 k_NM_search (c_NM_search e13) rfl sh_NM hp_NM rfl ⟨Nat.le_of_ble_eq_true rfl, Nat.le_of_ble_eq_true rfl⟩ (Nat.le_of_ble_eq_true rfl) (Nat.le_of_ble_eq_true rfl) rfl ?_
    refine x_istore (lv2 := [(0, .ref 5), (1, .int a1), (2, .int a2), (3, .ref 3), (4, .int r13.1)]) d_NM_read_16 (by decide) rfl ?_
    refine x_iload d_NM_read_18 rfl ?_
    refine x_iconst (v := (-1)) d_NM_read_20 (by decide) ?_
    refine x_icmp_ne (tgt := 30) d_NM_read_21 (by decide) (fun c_ => ?_) (fun c_ => ?_)
    · replace h := x_ie h c_
      refine x_sbk [4] (lv2 := [(4, .int r13.1)]) rfl ?_; exact b_NM_read_30 h
    · replace h := x_it h c_
      refine x_aload_n d_NM_read_24 rfl rfl ?_
      refine x_iconst (v := 5) d_NM_read_25 (by decide) ?_
      obtain ⟨r26, e26, h⟩ := x_bd h
      refine x_cVi (M2 := M_LX_tellHere) (As := [.int 5]) (st := []) d_NM_read_26 w_489 k_LX_tellHere (c_LX_tellHere e26) rfl sh_LX hp_LX rfl ⟨Nat.le_of_ble_eq_true rfl, Nat.le_of_ble_eq_true rfl⟩ (Nat.le_of_ble_eq_true rfl) (Nat.le_of_ble_eq_true rfl) rfl ?_
      refine x_pop d_NM_read_29 rfl ?_
      refine x_sbk [4] (lv2 := [(4, .int r13.1)]) rfl ?_; exact b_NM_read_30 h
  · replace h := x_it h c_
    refine x_iconst (v := (-1)) d_NM_read_7 (by decide) ?_
    cases h
    exact x_ri d_NM_read_8 rfl rfl
def B_CG_readMembers_71    (m : x_m) : Option (Int32 × x_m) := some (0, m)
theorem b_CG_readMembers_71 {G : x_G} {ex : Bool} {r : Int32 × x_m}    {m : x_m} (h : B_CG_readMembers_71 m = some r) : x_W G M_CG_readMembers (x_rd 5) (x_Q G (x_rd 5) ex (x_pi r)) ex x_np (x_hp m) 0 0 [] [] 71 := by
  unfold B_CG_readMembers_71 at h
  refine x_iconst (v := 0) d_CG_readMembers_71 (by decide) ?_
  cases h
  exact x_ri d_CG_readMembers_72 rfl rfl
def B_CG_readMembers_42   : Nat → Nat → Int32 → x_m → Option (Int32 × x_m)
  | 0, _, _, _ => none
  | f_ + 1, l2, l3, m => (if 1000 < l3 then some (0, m) else ((F_LX_next (x_N + 5) m).bind fun r56 => (if r56.1 = 0 then B_CG_readMembers_71 r56.2 else ((F_CG_readMember l2 l3 r56.2).bind fun r65 => (if r65.1 = 0 then B_CG_readMembers_71 r65.2 else ((F_LX_advance r65.2).bind fun r77 => (if x_kv (r77.2.2.1 3 1) = true then (if (r77.2.2.1 3 1) = (x_N + 8) then some (1, x_wS r77 l2 1 (l3 + 1)) else ((F_LX_at (x_N + 7) r77).bind fun r109 => (if r109.1 = 0 then some (0, r109.2) else (B_CG_readMembers_42 f_) l2 (l3 + 1) r109.2))) else none)))))))
theorem b_CG_readMembers_42 {G : x_G} {ex : Bool} {r : Int32 × x_m}   : ∀ (f_ : Nat) (l2 : Nat) (l3 : Int32) (m : x_m), (x_DM l2) → B_CG_readMembers_42 f_ l2 l3 m = some r → x_W G M_CG_readMembers (x_rd 5) (x_Q G (x_rd 5) ex (x_pi r)) ex x_np (x_hp m) 0 0 [(0, .ref 113), (2, .ref l2), (3, .int l3)] [] 42 := by
  intro f_
  induction f_ with
  | zero => intro l2 l3 m hl2 h; exact nomatch h
  | succ f_ ih =>
    intro l2 l3 m hl2 h
    rw [B_CG_readMembers_42] at h
    have hK42 := ih
    refine x_iload_n d_CG_readMembers_42 rfl rfl ?_
    refine x_sipush (v := 1000) d_CG_readMembers_43 (by decide) ?_
    refine x_icmp_gt (tgt := 123) d_CG_readMembers_46 (by decide) (fun c_ => ?_) (fun c_ => ?_)
    · replace h := x_it h c_
      refine x_iconst (v := 0) d_CG_readMembers_123 (by decide) ?_
      cases h
      exact x_ri d_CG_readMembers_124 rfl rfl
    · replace h := x_ie h c_
      refine x_aload_n d_CG_readMembers_49 rfl rfl ?_
      refine x_gC d_CG_readMembers_50 (f_CG_9 rfl) sh_CG hp_CG rfl ?_
      refine x_gets (i := 5) d_CG_readMembers_53 (by decide) w_721 ?_
      obtain ⟨r56, e56, h⟩ := x_bd h
      refine x_cVi (M2 := M_LX_next) (As := [.ref (x_N + 5)]) (st := []) d_CG_readMembers_56 w_722 k_LX_next (c_LX_next e56) rfl sh_LX hp_LX rfl ⟨Nat.le_of_ble_eq_true rfl, Nat.le_of_ble_eq_true rfl⟩ (Nat.le_of_ble_eq_true rfl) (Nat.le_of_ble_eq_true rfl) rfl ?_
      refine x_if_eq (tgt := 71) d_CG_readMembers_59 (by decide) (fun c_ => ?_) (fun c_ => ?_)
      · replace h := x_it h c_
        refine x_sbk [] (lv2 := []) rfl ?_; exact b_CG_readMembers_71 h
      · replace h := x_ie h c_
        refine x_aload_n d_CG_readMembers_62 rfl rfl ?_
        refine x_aload_n d_CG_readMembers_63 rfl rfl ?_
        refine x_iload_n d_CG_readMembers_64 rfl rfl ?_
        obtain ⟨r65, e65, h⟩ := x_bd h
        refine x_cVi (M2 := M_CG_readMember) (As := [.ref l2, .int l3]) (st := []) d_CG_readMembers_65 w_746 k_CG_readMember (c_CG_readMember hl2 e65) rfl sh_CG hp_CG rfl ⟨Nat.le_of_ble_eq_true rfl, Nat.le_of_ble_eq_true rfl⟩ (Nat.le_of_ble_eq_true rfl) (Nat.le_of_ble_eq_true rfl) rfl ?_
        refine x_if_ne (tgt := 73) d_CG_readMembers_68 (by decide) (fun c_ => ?_) (fun c_ => ?_)
        · replace h := x_ie h c_
          refine x_aload_n d_CG_readMembers_73 rfl rfl ?_
          refine x_gC d_CG_readMembers_74 (f_CG_9 rfl) sh_CG hp_CG rfl ?_
          obtain ⟨r77, e77, h⟩ := x_bd h
          refine x_cVv (M2 := M_LX_advance) (As := []) (st := []) d_CG_readMembers_77 w_699 k_LX_advance (c_LX_advance e77) rfl sh_LX hp_LX rfl ⟨Nat.le_of_ble_eq_true rfl, Nat.le_of_ble_eq_true rfl⟩ (Nat.le_of_ble_eq_true rfl) (Nat.le_of_ble_eq_true rfl) rfl ?_
          refine x_aload_n d_CG_readMembers_80 rfl rfl ?_
          refine x_gC d_CG_readMembers_81 (f_CG_9 rfl) sh_CG hp_CG rfl ?_
          refine x_gR d_CG_readMembers_84 (f_CG_26 rfl) sh_LX hp_LX rfl ?_
          refine x_gets (i := 8) d_CG_readMembers_87 (by decide) w_736 ?_
          obtain ⟨g_90_0, h⟩ := x_gd h
          refine x_kacmp_ne (tgt := 102) d_CG_readMembers_90 (by decide) g_90_0 (x_kvN 8 (by decide)) (fun c_ => ?_) (fun c_ => ?_)
          · replace h := x_ie h c_
            refine x_aload_n d_CG_readMembers_102 rfl rfl ?_
            refine x_gC d_CG_readMembers_103 (f_CG_9 rfl) sh_CG hp_CG rfl ?_
            refine x_gets (i := 7) d_CG_readMembers_106 (by decide) w_734 ?_
            obtain ⟨r109, e109, h⟩ := x_bd h
            refine x_cVi (M2 := M_LX_at) (As := [.ref (x_N + 7)]) (st := []) d_CG_readMembers_109 w_735 k_LX_at (c_LX_at e109) rfl sh_LX hp_LX rfl ⟨Nat.le_of_ble_eq_true rfl, Nat.le_of_ble_eq_true rfl⟩ (Nat.le_of_ble_eq_true rfl) (Nat.le_of_ble_eq_true rfl) rfl ?_
            refine x_if_ne (tgt := 117) d_CG_readMembers_112 (by decide) (fun c_ => ?_) (fun c_ => ?_)
            · replace h := x_ie h c_
              refine x_iinc (v := l3 + 1) (lv2 := [(0, .ref 113), (2, .ref l2), (3, .int (l3 + 1))]) d_CG_readMembers_117 rfl rfl (by decide) rfl ?_
              refine x_goto (tgt := 42) d_CG_readMembers_120 (by decide) ?_
              exact hK42 _ _ _ hl2 h
            · replace h := x_it h c_
              refine x_iconst (v := 0) d_CG_readMembers_115 (by decide) ?_
              cases h
              exact x_ri d_CG_readMembers_116 rfl rfl
          · replace h := x_it h c_
            refine x_aload_n d_CG_readMembers_93 rfl rfl ?_
            refine x_iload_n d_CG_readMembers_94 rfl rfl ?_
            refine x_iconst (v := 1) d_CG_readMembers_95 (by decide) ?_
            refine x_iadd d_CG_readMembers_96 ?_
            refine x_pI d_CG_readMembers_97 (f_CG_138 rfl) tb_DM rfl (sh_DM hl2) (hp_DM hl2) rfl ⟨rfl, rfl⟩ ?_
            refine x_iconst (v := 1) d_CG_readMembers_100 (by decide) ?_
            cases h
            exact x_ri d_CG_readMembers_101 rfl rfl
        · replace h := x_it h c_
          refine x_sbk [] (lv2 := []) rfl ?_; exact b_CG_readMembers_71 h
def F_CG_readMembers   (m : x_m) : Option (Int32 × x_m) := ((F_NM_read 0 (m.1 4 2) m).bind fun r16 => (if r16.1 = ((-1)) then some (0, r16.2) else (if x_ix r16.1 8 = true then B_CG_readMembers_42 x_fu (9 + 13 * r16.1.toNatClampNeg) (r16.2.1 (9 + 13 * r16.1.toNatClampNeg) 1) r16.2 else none)))
theorem c_CG_readMembers {G : x_G} {ex : Bool} {r : Int32 × x_m}   {m : x_m} (h : F_CG_readMembers m = some r) : x_R G M_CG_readMembers (x_rd 5) ex [.ref 113] x_np (x_hp m) (x_pi r) := by
  unfold F_CG_readMembers at h
  show x_W G M_CG_readMembers (x_rd 5) (x_Q G (x_rd 5) ex (x_pi r)) ex x_np (x_hp m) 0 0 [(0, .ref 113)] [] 0
  refine x_aload_n d_CG_readMembers_0 rfl rfl ?_
  refine x_gC d_CG_readMembers_1 (f_CG_25 rfl) sh_CG hp_CG rfl ?_
  refine x_iconst (v := 0) d_CG_readMembers_4 (by decide) ?_
  refine x_aload_n d_CG_readMembers_5 rfl rfl ?_
  refine x_gC d_CG_readMembers_6 (f_CG_15 rfl) sh_CG hp_CG rfl ?_
  refine x_gI d_CG_readMembers_9 (f_CG_67 rfl) sh_CT hp_CT rfl ?_
  refine x_aload_n d_CG_readMembers_12 rfl rfl ?_
  refine x_gC d_CG_readMembers_13 (f_CG_9 rfl) sh_CG hp_CG rfl ?_
  obtain ⟨r16, e16, h⟩ := x_bd h
  refine x_cVi (M2 := M_NM_read) (As := [.int 0, .int (m.1 4 2), .ref 3]) (st := []) d_CG_readMembers_16 w_745 k_NM_read (c_NM_read e16) rfl sh_NM hp_NM rfl ⟨Nat.le_of_ble_eq_true rfl, Nat.le_of_ble_eq_true rfl⟩ (Nat.le_of_ble_eq_true rfl) (Nat.le_of_ble_eq_true rfl) rfl ?_
  refine x_istore_n (lv2 := [(0, .ref 113), (1, .int r16.1)]) d_CG_readMembers_19 rfl (by decide) rfl ?_
  refine x_iload_n d_CG_readMembers_20 rfl rfl ?_
  refine x_iconst (v := (-1)) d_CG_readMembers_21 (by decide) ?_
  refine x_icmp_ne (tgt := 27) d_CG_readMembers_22 (by decide) (fun c_ => ?_) (fun c_ => ?_)
  · replace h := x_ie h c_
    refine x_aload_n d_CG_readMembers_27 rfl rfl ?_
    refine x_gC d_CG_readMembers_28 (f_CG_15 rfl) sh_CG hp_CG rfl ?_
    refine x_gC d_CG_readMembers_31 (f_CG_95 rfl) sh_CT hp_CT rfl ?_
    refine x_iload_n d_CG_readMembers_34 rfl rfl ?_
    obtain ⟨g_35, h⟩ := x_gd h
    refine x_lR (b := 9 + 13 * r16.1.toNatClampNeg) d_CG_readMembers_35 rfl sa_CT_dimensions ha_CT_dimensions g_35 (if_pos (x_ix_lt g_35)) ?_
    refine x_astore_n (lv2 := [(0, .ref 113), (1, .int r16.1), (2, .ref (9 + 13 * r16.1.toNatClampNeg))]) d_CG_readMembers_36 rfl (by decide) rfl ?_
    refine x_aload_n d_CG_readMembers_37 rfl rfl ?_
    refine x_gI d_CG_readMembers_38 (f_CG_138 rfl) (sh_DM (x_DM_of (x_ix_lt g_35))) (hp_DM (x_DM_of (x_ix_lt g_35))) rfl ?_
    refine x_istore_n (lv2 := [(0, .ref 113), (1, .int r16.1), (2, .ref (9 + 13 * r16.1.toNatClampNeg)), (3, .int (r16.2.1 (9 + 13 * r16.1.toNatClampNeg) 1))]) d_CG_readMembers_41 rfl (by decide) rfl ?_
    refine x_sbk [0, 2, 3] (lv2 := [(0, .ref 113), (2, .ref (9 + 13 * r16.1.toNatClampNeg)), (3, .int (r16.2.1 (9 + 13 * r16.1.toNatClampNeg) 1))]) rfl ?_; exact b_CG_readMembers_42 _ _ _ _ (x_DM_of (x_ix_lt g_35)) h
  · replace h := x_it h c_
    refine x_iconst (v := 0) d_CG_readMembers_25 (by decide) ?_
    cases h
    exact x_ri d_CG_readMembers_26 rfl rfl
def F_LX_tellUnfit   (m : x_m) : Option (Int32 × x_m) := ((F_LX_tell (m.1 3 8) (m.1 3 2) m).bind fun r9 => (if x_b1 r9.1 = true then some (r9.1, r9.2) else none))
theorem c_LX_tellUnfit {G : x_G} {ex : Bool} {r : Int32 × x_m}   {m : x_m} (h : F_LX_tellUnfit m = some r) : x_R G M_LX_tellUnfit (x_rd 1) ex [.ref 3] x_np (x_hp m) (x_pi r) := by
  unfold F_LX_tellUnfit at h
  show x_W G M_LX_tellUnfit (x_rd 1) (x_Q G (x_rd 1) ex (x_pi r)) ex x_np (x_hp m) 0 0 [(0, .ref 3)] [] 0
  refine x_aload_n d_LX_tellUnfit_0 rfl rfl ?_
  refine x_aload_n d_LX_tellUnfit_1 rfl rfl ?_
  refine x_gI d_LX_tellUnfit_2 (f_LX_44 rfl) sh_LX hp_LX rfl ?_
  refine x_aload_n d_LX_tellUnfit_5 rfl rfl ?_
  refine x_gI d_LX_tellUnfit_6 (f_LX_37 rfl) sh_LX hp_LX rfl ?_
  obtain ⟨r9, e9, h⟩ := x_bd h
  refine x_cVi (M2 := M_LX_tell) (As := [.int (m.1 3 8), .int (m.1 3 2)]) (st := []) d_LX_tellUnfit_9 w_438 k_LX_tell (c_LX_tell e9) rfl sh_LX hp_LX rfl ⟨Nat.le_of_ble_eq_true rfl, Nat.le_of_ble_eq_true rfl⟩ (Nat.le_of_ble_eq_true rfl) (Nat.le_of_ble_eq_true rfl) rfl ?_
  obtain ⟨g_12, h⟩ := x_gd h
  cases h
  exact x_ri d_LX_tellUnfit_12 rfl (x_b1_ok g_12).1
def B_CG_readStatement_94   (s0 : Int32) (m : x_m) : Option (Int32 × x_m) := (if x_b1 s0 = true then some (s0, m) else none)
theorem b_CG_readStatement_94 {G : x_G} {ex : Bool} {r : Int32 × x_m}   {s0 : Int32} {m : x_m} (h : B_CG_readStatement_94 s0 m = some r) : x_W G M_CG_readStatement (x_rd 6) (x_Q G (x_rd 6) ex (x_pi r)) ex x_np (x_hp m) 0 0 [] [.int s0] 94 := by
  unfold B_CG_readStatement_94 at h
  obtain ⟨g_94, h⟩ := x_gd h
  cases h
  exact x_ri d_CG_readStatement_94 rfl (x_b1_ok g_94).1
def B_CG_readStatement_37   (l1 : Nat) (m : x_m) : Option (Int32 × x_m) := (if (m.1 4 4) = 0 then ((F_LX_advance m).bind fun r61 => (if x_kv l1 = true then (if l1 = (x_N + 17) then ((F_CG_readDimension r61).bind fun r72 => (if x_b1 r72.1 = true then some (r72.1, r72.2) else none)) else (if x_kv l1 = true then (if l1 = (x_N + 18) then ((F_CG_readMeasure r61).bind fun r84 => B_CG_readStatement_94 r84.1 r84.2) else ((F_CG_readMembers r61).bind fun r91 => B_CG_readStatement_94 r91.1 r91.2)) else none)) else none)) else ((F_LX_tellHere 8 m).bind fun r53 => (if x_b1 r53.1 = true then some (r53.1, r53.2) else none)))
theorem b_CG_readStatement_37 {G : x_G} {ex : Bool} {r : Int32 × x_m}   {l1 : Nat} {m : x_m} (h : B_CG_readStatement_37 l1 m = some r) : x_W G M_CG_readStatement (x_rd 6) (x_Q G (x_rd 6) ex (x_pi r)) ex x_np (x_hp m) 0 0 [(0, .ref 113), (1, .ref l1)] [] 37 := by
  unfold B_CG_readStatement_37 at h
  refine x_aload_n d_CG_readStatement_37 rfl rfl ?_
  refine x_gC d_CG_readStatement_38 (f_CG_15 rfl) sh_CG hp_CG rfl ?_
  refine x_gI d_CG_readStatement_41 (f_CG_47 rfl) sh_CT hp_CT rfl ?_
  refine x_if_eq (tgt := 57) d_CG_readStatement_44 (by decide) (fun c_ => ?_) (fun c_ => ?_)
  · replace h := x_it h c_
    refine x_aload_n d_CG_readStatement_57 rfl rfl ?_
    refine x_gC d_CG_readStatement_58 (f_CG_9 rfl) sh_CG hp_CG rfl ?_
    obtain ⟨r61, e61, h⟩ := x_bd h
    refine x_cVv (M2 := M_LX_advance) (As := []) (st := []) d_CG_readStatement_61 w_699 k_LX_advance (c_LX_advance e61) rfl sh_LX hp_LX rfl ⟨Nat.le_of_ble_eq_true rfl, Nat.le_of_ble_eq_true rfl⟩ (Nat.le_of_ble_eq_true rfl) (Nat.le_of_ble_eq_true rfl) rfl ?_
    refine x_aload_n d_CG_readStatement_64 rfl rfl ?_
    refine x_gets (i := 17) d_CG_readStatement_65 (by decide) w_691 ?_
    obtain ⟨g_68_0, h⟩ := x_gd h
    refine x_kacmp_ne (tgt := 76) d_CG_readStatement_68 (by decide) g_68_0 (x_kvN 17 (by decide)) (fun c_ => ?_) (fun c_ => ?_)
    · replace h := x_ie h c_
      refine x_aload_n d_CG_readStatement_76 rfl rfl ?_
      refine x_gets (i := 18) d_CG_readStatement_77 (by decide) w_693 ?_
      obtain ⟨g_80_0, h⟩ := x_gd h
      refine x_kacmp_ne (tgt := 90) d_CG_readStatement_80 (by decide) g_80_0 (x_kvN 18 (by decide)) (fun c_ => ?_) (fun c_ => ?_)
      · replace h := x_ie h c_
        refine x_aload_n d_CG_readStatement_90 rfl rfl ?_
        obtain ⟨r91, e91, h⟩ := x_bd h
        refine x_cVi (M2 := M_CG_readMembers) (As := []) (st := []) d_CG_readStatement_91 w_741 k_CG_readMembers (c_CG_readMembers e91) rfl sh_CG hp_CG rfl ⟨Nat.le_of_ble_eq_true rfl, Nat.le_of_ble_eq_true rfl⟩ (Nat.le_of_ble_eq_true rfl) (Nat.le_of_ble_eq_true rfl) rfl ?_
        refine x_sbk [] (lv2 := []) rfl ?_; exact b_CG_readStatement_94 h
      · replace h := x_it h c_
        refine x_aload_n d_CG_readStatement_83 rfl rfl ?_
        obtain ⟨r84, e84, h⟩ := x_bd h
        refine x_cVi (M2 := M_CG_readMeasure) (As := []) (st := []) d_CG_readStatement_84 w_737 k_CG_readMeasure (c_CG_readMeasure e84) rfl sh_CG hp_CG rfl ⟨Nat.le_of_ble_eq_true rfl, Nat.le_of_ble_eq_true rfl⟩ (Nat.le_of_ble_eq_true rfl) (Nat.le_of_ble_eq_true rfl) rfl ?_
        refine x_goto (tgt := 94) d_CG_readStatement_87 (by decide) ?_
        refine x_sbk [] (lv2 := []) rfl ?_; exact b_CG_readStatement_94 h
    · replace h := x_it h c_
      refine x_aload_n d_CG_readStatement_71 rfl rfl ?_
      obtain ⟨r72, e72, h⟩ := x_bd h
      refine x_cVi (M2 := M_CG_readDimension) (As := []) (st := []) d_CG_readStatement_72 w_700 k_CG_readDimension (c_CG_readDimension e72) rfl sh_CG hp_CG rfl ⟨Nat.le_of_ble_eq_true rfl, Nat.le_of_ble_eq_true rfl⟩ (Nat.le_of_ble_eq_true rfl) (Nat.le_of_ble_eq_true rfl) rfl ?_
      obtain ⟨g_75, h⟩ := x_gd h
      cases h
      exact x_ri d_CG_readStatement_75 rfl (x_b1_ok g_75).1
  · replace h := x_ie h c_
    refine x_aload_n d_CG_readStatement_47 rfl rfl ?_
    refine x_gC d_CG_readStatement_48 (f_CG_9 rfl) sh_CG hp_CG rfl ?_
    refine x_bipush (v := 8) d_CG_readStatement_51 (by decide) ?_
    obtain ⟨r53, e53, h⟩ := x_bd h
    refine x_cVi (M2 := M_LX_tellHere) (As := [.int 8]) (st := []) d_CG_readStatement_53 w_698 k_LX_tellHere (c_LX_tellHere e53) rfl sh_LX hp_LX rfl ⟨Nat.le_of_ble_eq_true rfl, Nat.le_of_ble_eq_true rfl⟩ (Nat.le_of_ble_eq_true rfl) (Nat.le_of_ble_eq_true rfl) rfl ?_
    obtain ⟨g_56, h⟩ := x_gd h
    cases h
    exact x_ri d_CG_readStatement_56 rfl (x_b1_ok g_56).1
def F_CG_readStatement   (m : x_m) : Option (Int32 × x_m) := (if x_kv (m.2.2.1 3 1) = true then (if (m.2.2.1 3 1) = (x_N + 17) then B_CG_readStatement_37 (m.2.2.1 3 1) m else (if x_kv (m.2.2.1 3 1) = true then (if (m.2.2.1 3 1) = (x_N + 18) then B_CG_readStatement_37 (m.2.2.1 3 1) m else (if x_kv (m.2.2.1 3 1) = true then (if (m.2.2.1 3 1) = (x_N + 19) then B_CG_readStatement_37 (m.2.2.1 3 1) m else ((F_LX_tellUnfit m).bind fun r33 => (if x_b1 r33.1 = true then some (r33.1, r33.2) else none))) else none)) else none)) else none)
theorem c_CG_readStatement {G : x_G} {ex : Bool} {r : Int32 × x_m}   {m : x_m} (h : F_CG_readStatement m = some r) : x_R G M_CG_readStatement (x_rd 6) ex [.ref 113] x_np (x_hp m) (x_pi r) := by
  unfold F_CG_readStatement at h
  show x_W G M_CG_readStatement (x_rd 6) (x_Q G (x_rd 6) ex (x_pi r)) ex x_np (x_hp m) 0 0 [(0, .ref 113)] [] 0
  refine x_aload_n d_CG_readStatement_0 rfl rfl ?_
  refine x_gC d_CG_readStatement_1 (f_CG_9 rfl) sh_CG hp_CG rfl ?_
  refine x_gR d_CG_readStatement_4 (f_CG_26 rfl) sh_LX hp_LX rfl ?_
  refine x_astore_n (lv2 := [(0, .ref 113), (1, .ref (m.2.2.1 3 1))]) d_CG_readStatement_7 rfl (by decide) rfl ?_
  refine x_aload_n d_CG_readStatement_8 rfl rfl ?_
  refine x_gets (i := 17) d_CG_readStatement_9 (by decide) w_691 ?_
  obtain ⟨g_12_0, h⟩ := x_gd h
  refine x_kacmp_eq (tgt := 37) d_CG_readStatement_12 (by decide) g_12_0 (x_kvN 17 (by decide)) (fun c_ => ?_) (fun c_ => ?_)
  · replace h := x_it h c_
    exact b_CG_readStatement_37 h
  · replace h := x_ie h c_
    refine x_aload_n d_CG_readStatement_15 rfl rfl ?_
    refine x_gets (i := 18) d_CG_readStatement_16 (by decide) w_693 ?_
    obtain ⟨g_19_0, h⟩ := x_gd h
    refine x_kacmp_eq (tgt := 37) d_CG_readStatement_19 (by decide) g_19_0 (x_kvN 18 (by decide)) (fun c_ => ?_) (fun c_ => ?_)
    · replace h := x_it h c_
      exact b_CG_readStatement_37 h
    · replace h := x_ie h c_
      refine x_aload_n d_CG_readStatement_22 rfl rfl ?_
      refine x_gets (i := 19) d_CG_readStatement_23 (by decide) w_695 ?_
      obtain ⟨g_26_0, h⟩ := x_gd h
      refine x_kacmp_eq (tgt := 37) d_CG_readStatement_26 (by decide) g_26_0 (x_kvN 19 (by decide)) (fun c_ => ?_) (fun c_ => ?_)
      · replace h := x_it h c_
        exact b_CG_readStatement_37 h
      · replace h := x_ie h c_
        refine x_aload_n d_CG_readStatement_29 rfl rfl ?_
        refine x_gC d_CG_readStatement_30 (f_CG_9 rfl) sh_CG hp_CG rfl ?_
        obtain ⟨r33, e33, h⟩ := x_bd h
        refine x_cVi (M2 := M_LX_tellUnfit) (As := []) (st := []) d_CG_readStatement_33 w_697 k_LX_tellUnfit (c_LX_tellUnfit e33) rfl sh_LX hp_LX rfl ⟨Nat.le_of_ble_eq_true rfl, Nat.le_of_ble_eq_true rfl⟩ (Nat.le_of_ble_eq_true rfl) (Nat.le_of_ble_eq_true rfl) rfl ?_
        obtain ⟨g_36, h⟩ := x_gd h
        cases h
        exact x_ri d_CG_readStatement_36 rfl (x_b1_ok g_36).1
def F_LX_restart   (m : x_m) : Option (x_m) := some (x_wS (x_wS (x_wS m 3 3 0) 3 5 0) 3 6 ((-1)))
theorem c_LX_restart {G : x_G} {ex : Bool} {r : x_m}   {m : x_m} (h : F_LX_restart m = some r) : x_R G M_LX_restart (x_rd 0) ex [.ref 3] x_np (x_hp m) (x_pv r) := by
  unfold F_LX_restart at h
  show x_W G M_LX_restart (x_rd 0) (x_Q G (x_rd 0) ex (x_pv r)) ex x_np (x_hp m) 0 0 [(0, .ref 3)] [] 0
  refine x_aload_n d_LX_restart_0 rfl rfl ?_
  refine x_iconst (v := 0) d_LX_restart_1 (by decide) ?_
  refine x_pI d_LX_restart_2 (f_LX_28 rfl) tb_LX rfl sh_LX hp_LX rfl ⟨rfl, rfl⟩ ?_
  refine x_aload_n d_LX_restart_5 rfl rfl ?_
  refine x_iconst (v := 0) d_LX_restart_6 (by decide) ?_
  refine x_pI d_LX_restart_7 (f_LX_31 rfl) tb_LX rfl sh_LX hp_LX rfl ⟨rfl, rfl⟩ ?_
  refine x_aload_n d_LX_restart_10 rfl rfl ?_
  refine x_iconst (v := (-1)) d_LX_restart_11 (by decide) ?_
  refine x_pI d_LX_restart_12 (f_LX_20 rfl) tb_LX rfl sh_LX hp_LX rfl ⟨rfl, rfl⟩ ?_
  cases h
  exact x_rv d_LX_restart_15 rfl
