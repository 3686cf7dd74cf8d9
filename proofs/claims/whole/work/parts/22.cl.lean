def M_QG_readColumn : x_M := (⟨"QuestionReader$QuestionGrammar", "readColumn", "(Z)I"⟩, prog_11_method_6_code, 5, some (.int), [])
theorem d_QG_readColumn_0 : decode M_QG_readColumn.2.1 0 = .ok (.aload_n 0, 1) := by decide +kernel
theorem d_QG_readColumn_1 : decode M_QG_readColumn.2.1 1 = .ok (.getfield 35, 3) := by decide +kernel
theorem d_QG_readColumn_4 : decode M_QG_readColumn.2.1 4 = .ok (.iconst 0, 1) := by decide +kernel
theorem d_QG_readColumn_5 : decode M_QG_readColumn.2.1 5 = .ok (.aload_n 0, 1) := by decide +kernel
theorem d_QG_readColumn_6 : decode M_QG_readColumn.2.1 6 = .ok (.getfield 25, 3) := by decide +kernel
theorem d_QG_readColumn_9 : decode M_QG_readColumn.2.1 9 = .ok (.getfield 139, 3) := by decide +kernel
theorem d_QG_readColumn_12 : decode M_QG_readColumn.2.1 12 = .ok (.aload_n 0, 1) := by decide +kernel
theorem d_QG_readColumn_13 : decode M_QG_readColumn.2.1 13 = .ok (.getfield 21, 3) := by decide +kernel
theorem d_QG_readColumn_16 : decode M_QG_readColumn.2.1 16 = .ok (.invokevirtual 135, 3) := by decide +kernel
theorem d_QG_readColumn_19 : decode M_QG_readColumn.2.1 19 = .ok (.istore_n 2, 1) := by decide +kernel
theorem d_QG_readColumn_20 : decode M_QG_readColumn.2.1 20 = .ok (.iload_n 2, 1) := by decide +kernel
theorem d_QG_readColumn_21 : decode M_QG_readColumn.2.1 21 = .ok (.iconst (-1), 1) := by decide +kernel
theorem d_QG_readColumn_22 : decode M_QG_readColumn.2.1 22 = .ok (.if_icmp .ne 5, 3) := by decide +kernel
theorem d_QG_readColumn_25 : decode M_QG_readColumn.2.1 25 = .ok (.iconst (-1), 1) := by decide +kernel
theorem d_QG_readColumn_26 : decode M_QG_readColumn.2.1 26 = .ok (.ireturn, 1) := by decide +kernel
theorem d_QG_readColumn_27 : decode M_QG_readColumn.2.1 27 = .ok (.iload_n 1, 1) := by decide +kernel
theorem d_QG_readColumn_28 : decode M_QG_readColumn.2.1 28 = .ok (.ifCond .eq 15, 3) := by decide +kernel
theorem d_QG_readColumn_31 : decode M_QG_readColumn.2.1 31 = .ok (.aload_n 0, 1) := by decide +kernel
theorem d_QG_readColumn_32 : decode M_QG_readColumn.2.1 32 = .ok (.getfield 21, 3) := by decide +kernel
theorem d_QG_readColumn_35 : decode M_QG_readColumn.2.1 35 = .ok (.bipush 7, 2) := by decide +kernel
theorem d_QG_readColumn_37 : decode M_QG_readColumn.2.1 37 = .ok (.invokevirtual 42, 3) := by decide +kernel
theorem d_QG_readColumn_40 : decode M_QG_readColumn.2.1 40 = .ok (.pop, 1) := by decide +kernel
theorem d_QG_readColumn_41 : decode M_QG_readColumn.2.1 41 = .ok (.iconst (-1), 1) := by decide +kernel
theorem d_QG_readColumn_42 : decode M_QG_readColumn.2.1 42 = .ok (.ireturn, 1) := by decide +kernel
theorem d_QG_readColumn_43 : decode M_QG_readColumn.2.1 43 = .ok (.aload_n 0, 1) := by decide +kernel
theorem d_QG_readColumn_44 : decode M_QG_readColumn.2.1 44 = .ok (.getfield 21, 3) := by decide +kernel
theorem d_QG_readColumn_47 : decode M_QG_readColumn.2.1 47 = .ok (.getstatic 142, 3) := by decide +kernel
theorem d_QG_readColumn_50 : decode M_QG_readColumn.2.1 50 = .ok (.invokevirtual 113, 3) := by decide +kernel
theorem d_QG_readColumn_53 : decode M_QG_readColumn.2.1 53 = .ok (.ifCond .ne 5, 3) := by decide +kernel
theorem d_QG_readColumn_56 : decode M_QG_readColumn.2.1 56 = .ok (.iconst (-1), 1) := by decide +kernel
theorem d_QG_readColumn_57 : decode M_QG_readColumn.2.1 57 = .ok (.ireturn, 1) := by decide +kernel
theorem d_QG_readColumn_58 : decode M_QG_readColumn.2.1 58 = .ok (.aload_n 0, 1) := by decide +kernel
theorem d_QG_readColumn_59 : decode M_QG_readColumn.2.1 59 = .ok (.getfield 21, 3) := by decide +kernel
theorem d_QG_readColumn_62 : decode M_QG_readColumn.2.1 62 = .ok (.invokevirtual 86, 3) := by decide +kernel
theorem d_QG_readColumn_65 : decode M_QG_readColumn.2.1 65 = .ok (.bipush 8, 2) := by decide +kernel
theorem d_QG_readColumn_67 : decode M_QG_readColumn.2.1 67 = .ok (.iload_n 2, 1) := by decide +kernel
theorem d_QG_readColumn_68 : decode M_QG_readColumn.2.1 68 = .ok (.iconst 0, 1) := by decide +kernel
theorem d_QG_readColumn_69 : decode M_QG_readColumn.2.1 69 = .ok (.invokestatic 145, 3) := by decide +kernel
theorem d_QG_readColumn_72 : decode M_QG_readColumn.2.1 72 = .ok (.iadd, 1) := by decide +kernel
theorem d_QG_readColumn_73 : decode M_QG_readColumn.2.1 73 = .ok (.istore_n 3, 1) := by decide +kernel
theorem d_QG_readColumn_74 : decode M_QG_readColumn.2.1 74 = .ok (.aload_n 0, 1) := by decide +kernel
theorem d_QG_readColumn_75 : decode M_QG_readColumn.2.1 75 = .ok (.getfield 35, 3) := by decide +kernel
theorem d_QG_readColumn_78 : decode M_QG_readColumn.2.1 78 = .ok (.iload_n 3, 1) := by decide +kernel
theorem d_QG_readColumn_79 : decode M_QG_readColumn.2.1 79 = .ok (.aload_n 0, 1) := by decide +kernel
theorem d_QG_readColumn_80 : decode M_QG_readColumn.2.1 80 = .ok (.getfield 25, 3) := by decide +kernel
theorem d_QG_readColumn_83 : decode M_QG_readColumn.2.1 83 = .ok (.getfield 149, 3) := by decide +kernel
theorem d_QG_readColumn_86 : decode M_QG_readColumn.2.1 86 = .ok (.iload_n 2, 1) := by decide +kernel
theorem d_QG_readColumn_87 : decode M_QG_readColumn.2.1 87 = .ok (.aaload, 1) := by decide +kernel
theorem d_QG_readColumn_88 : decode M_QG_readColumn.2.1 88 = .ok (.getfield 153, 3) := by decide +kernel
theorem d_QG_readColumn_91 : decode M_QG_readColumn.2.1 91 = .ok (.aload_n 0, 1) := by decide +kernel
theorem d_QG_readColumn_92 : decode M_QG_readColumn.2.1 92 = .ok (.getfield 21, 3) := by decide +kernel
theorem d_QG_readColumn_95 : decode M_QG_readColumn.2.1 95 = .ok (.invokevirtual 135, 3) := by decide +kernel
theorem d_QG_readColumn_98 : decode M_QG_readColumn.2.1 98 = .ok (.istore 4, 2) := by decide +kernel
theorem d_QG_readColumn_100 : decode M_QG_readColumn.2.1 100 = .ok (.iload 4, 2) := by decide +kernel
theorem d_QG_readColumn_102 : decode M_QG_readColumn.2.1 102 = .ok (.iconst (-1), 1) := by decide +kernel
theorem d_QG_readColumn_103 : decode M_QG_readColumn.2.1 103 = .ok (.if_icmp .ne 7, 3) := by decide +kernel
theorem d_QG_readColumn_106 : decode M_QG_readColumn.2.1 106 = .ok (.iconst (-1), 1) := by decide +kernel
theorem d_QG_readColumn_107 : decode M_QG_readColumn.2.1 107 = .ok (.goto 9, 3) := by decide +kernel
theorem d_QG_readColumn_110 : decode M_QG_readColumn.2.1 110 = .ok (.iload_n 2, 1) := by decide +kernel
theorem d_QG_readColumn_111 : decode M_QG_readColumn.2.1 111 = .ok (.iload 4, 2) := by decide +kernel
theorem d_QG_readColumn_113 : decode M_QG_readColumn.2.1 113 = .ok (.invokestatic 145, 3) := by decide +kernel
theorem d_QG_readColumn_116 : decode M_QG_readColumn.2.1 116 = .ok (.ireturn, 1) := by decide +kernel
theorem k_QG_readColumn : x_kV M_QG_readColumn "QuestionReader$QuestionGrammar" 1 := ⟨⟨by decide, Or.inl ⟨w_472, rfl⟩⟩, w_471, ws_8, ⟨by decide, by decide⟩, by decide +kernel⟩
def M_QU_addColumn : x_M := (⟨"QuestionReader$Question", "addColumn", "(I)V"⟩, prog_10_method_6_code, 2, none, [])
theorem d_QU_addColumn_0 : decode M_QU_addColumn.2.1 0 = .ok (.aload_n 0, 1) := by decide +kernel
theorem d_QU_addColumn_1 : decode M_QU_addColumn.2.1 1 = .ok (.getfield 38, 3) := by decide +kernel
theorem d_QU_addColumn_4 : decode M_QU_addColumn.2.1 4 = .ok (.bipush 8, 2) := by decide +kernel
theorem d_QU_addColumn_6 : decode M_QU_addColumn.2.1 6 = .ok (.if_icmp .ge 23, 3) := by decide +kernel
theorem d_QU_addColumn_9 : decode M_QU_addColumn.2.1 9 = .ok (.aload_n 0, 1) := by decide +kernel
theorem d_QU_addColumn_10 : decode M_QU_addColumn.2.1 10 = .ok (.getfield 21, 3) := by decide +kernel
theorem d_QU_addColumn_13 : decode M_QU_addColumn.2.1 13 = .ok (.aload_n 0, 1) := by decide +kernel
theorem d_QU_addColumn_14 : decode M_QU_addColumn.2.1 14 = .ok (.getfield 38, 3) := by decide +kernel
theorem d_QU_addColumn_17 : decode M_QU_addColumn.2.1 17 = .ok (.iload_n 1, 1) := by decide +kernel
theorem d_QU_addColumn_18 : decode M_QU_addColumn.2.1 18 = .ok (.iastore, 1) := by decide +kernel
theorem d_QU_addColumn_19 : decode M_QU_addColumn.2.1 19 = .ok (.aload_n 0, 1) := by decide +kernel
theorem d_QU_addColumn_20 : decode M_QU_addColumn.2.1 20 = .ok (.dup, 1) := by decide +kernel
theorem d_QU_addColumn_21 : decode M_QU_addColumn.2.1 21 = .ok (.getfield 38, 3) := by decide +kernel
theorem d_QU_addColumn_24 : decode M_QU_addColumn.2.1 24 = .ok (.iconst 1, 1) := by decide +kernel
theorem d_QU_addColumn_25 : decode M_QU_addColumn.2.1 25 = .ok (.iadd, 1) := by decide +kernel
theorem d_QU_addColumn_26 : decode M_QU_addColumn.2.1 26 = .ok (.putfield 38, 3) := by decide +kernel
theorem d_QU_addColumn_29 : decode M_QU_addColumn.2.1 29 = .ok (.return_, 1) := by decide +kernel
theorem k_QU_addColumn : x_kV M_QU_addColumn "QuestionReader$Question" 1 := ⟨⟨by decide, Or.inl ⟨w_669, rfl⟩⟩, w_667, w_668, ⟨by decide, by decide⟩, by decide +kernel⟩
def M_QU_hasColumn : x_M := (⟨"QuestionReader$Question", "hasColumn", "(I)Z"⟩, prog_10_method_7_code, 3, some (.boolean), [])
theorem d_QU_hasColumn_0 : decode M_QU_hasColumn.2.1 0 = .ok (.iconst 0, 1) := by decide +kernel
theorem d_QU_hasColumn_1 : decode M_QU_hasColumn.2.1 1 = .ok (.istore_n 2, 1) := by decide +kernel
theorem d_QU_hasColumn_2 : decode M_QU_hasColumn.2.1 2 = .ok (.iload_n 2, 1) := by decide +kernel
theorem d_QU_hasColumn_3 : decode M_QU_hasColumn.2.1 3 = .ok (.aload_n 0, 1) := by decide +kernel
theorem d_QU_hasColumn_4 : decode M_QU_hasColumn.2.1 4 = .ok (.getfield 38, 3) := by decide +kernel
theorem d_QU_hasColumn_7 : decode M_QU_hasColumn.2.1 7 = .ok (.if_icmp .ge 21, 3) := by decide +kernel
theorem d_QU_hasColumn_10 : decode M_QU_hasColumn.2.1 10 = .ok (.aload_n 0, 1) := by decide +kernel
theorem d_QU_hasColumn_11 : decode M_QU_hasColumn.2.1 11 = .ok (.getfield 21, 3) := by decide +kernel
theorem d_QU_hasColumn_14 : decode M_QU_hasColumn.2.1 14 = .ok (.iload_n 2, 1) := by decide +kernel
theorem d_QU_hasColumn_15 : decode M_QU_hasColumn.2.1 15 = .ok (.iaload, 1) := by decide +kernel
theorem d_QU_hasColumn_16 : decode M_QU_hasColumn.2.1 16 = .ok (.iload_n 1, 1) := by decide +kernel
theorem d_QU_hasColumn_17 : decode M_QU_hasColumn.2.1 17 = .ok (.if_icmp .ne 5, 3) := by decide +kernel
theorem d_QU_hasColumn_20 : decode M_QU_hasColumn.2.1 20 = .ok (.iconst 1, 1) := by decide +kernel
theorem d_QU_hasColumn_21 : decode M_QU_hasColumn.2.1 21 = .ok (.ireturn, 1) := by decide +kernel
theorem d_QU_hasColumn_22 : decode M_QU_hasColumn.2.1 22 = .ok (.iinc 2 1, 3) := by decide +kernel
theorem d_QU_hasColumn_25 : decode M_QU_hasColumn.2.1 25 = .ok (.goto (-23), 3) := by decide +kernel
theorem d_QU_hasColumn_28 : decode M_QU_hasColumn.2.1 28 = .ok (.iconst 0, 1) := by decide +kernel
theorem d_QU_hasColumn_29 : decode M_QU_hasColumn.2.1 29 = .ok (.ireturn, 1) := by decide +kernel
theorem k_QU_hasColumn : x_kV M_QU_hasColumn "QuestionReader$Question" 1 := ⟨⟨by decide, Or.inl ⟨w_664, rfl⟩⟩, w_662, w_663, ⟨by decide, by decide⟩, by decide +kernel⟩
def M_QG_readGroup : x_M := (⟨"QuestionReader$QuestionGrammar", "readGroup", "(Z)I"⟩, prog_11_method_14_code, 5, some (.int), [])
theorem d_QG_readGroup_0 : decode M_QG_readGroup.2.1 0 = .ok (.iload_n 1, 1) := by decide +kernel
theorem d_QG_readGroup_1 : decode M_QG_readGroup.2.1 1 = .ok (.ifCond .eq 25, 3) := by decide +kernel
theorem d_QG_readGroup_4 : decode M_QG_readGroup.2.1 4 = .ok (.aload_n 0, 1) := by decide +kernel
theorem d_QG_readGroup_5 : decode M_QG_readGroup.2.1 5 = .ok (.getfield 21, 3) := by decide +kernel
theorem d_QG_readGroup_8 : decode M_QG_readGroup.2.1 8 = .ok (.getstatic 110, 3) := by decide +kernel
theorem d_QG_readGroup_11 : decode M_QG_readGroup.2.1 11 = .ok (.invokevirtual 113, 3) := by decide +kernel
theorem d_QG_readGroup_14 : decode M_QG_readGroup.2.1 14 = .ok (.ifCond .ne 5, 3) := by decide +kernel
theorem d_QG_readGroup_17 : decode M_QG_readGroup.2.1 17 = .ok (.iconst 0, 1) := by decide +kernel
theorem d_QG_readGroup_18 : decode M_QG_readGroup.2.1 18 = .ok (.ireturn, 1) := by decide +kernel
theorem d_QG_readGroup_19 : decode M_QG_readGroup.2.1 19 = .ok (.aload_n 0, 1) := by decide +kernel
theorem d_QG_readGroup_20 : decode M_QG_readGroup.2.1 20 = .ok (.getfield 21, 3) := by decide +kernel
theorem d_QG_readGroup_23 : decode M_QG_readGroup.2.1 23 = .ok (.invokevirtual 86, 3) := by decide +kernel
theorem d_QG_readGroup_26 : decode M_QG_readGroup.2.1 26 = .ok (.iconst 1, 1) := by decide +kernel
theorem d_QG_readGroup_27 : decode M_QG_readGroup.2.1 27 = .ok (.istore_n 2, 1) := by decide +kernel
theorem d_QG_readGroup_28 : decode M_QG_readGroup.2.1 28 = .ok (.iload_n 2, 1) := by decide +kernel
theorem d_QG_readGroup_29 : decode M_QG_readGroup.2.1 29 = .ok (.bipush 9, 2) := by decide +kernel
theorem d_QG_readGroup_31 : decode M_QG_readGroup.2.1 31 = .ok (.if_icmp .gt 132, 3) := by decide +kernel
theorem d_QG_readGroup_34 : decode M_QG_readGroup.2.1 34 = .ok (.aload_n 0, 1) := by decide +kernel
theorem d_QG_readGroup_35 : decode M_QG_readGroup.2.1 35 = .ok (.getfield 21, 3) := by decide +kernel
theorem d_QG_readGroup_38 : decode M_QG_readGroup.2.1 38 = .ok (.getfield 95, 3) := by decide +kernel
theorem d_QG_readGroup_41 : decode M_QG_readGroup.2.1 41 = .ok (.istore_n 3, 1) := by decide +kernel
theorem d_QG_readGroup_42 : decode M_QG_readGroup.2.1 42 = .ok (.aload_n 0, 1) := by decide +kernel
theorem d_QG_readGroup_43 : decode M_QG_readGroup.2.1 43 = .ok (.aload_n 0, 1) := by decide +kernel
theorem d_QG_readGroup_44 : decode M_QG_readGroup.2.1 44 = .ok (.getfield 18, 3) := by decide +kernel
theorem d_QG_readGroup_47 : decode M_QG_readGroup.2.1 47 = .ok (.getfield 275, 3) := by decide +kernel
theorem d_QG_readGroup_50 : decode M_QG_readGroup.2.1 50 = .ok (.bipush 8, 2) := by decide +kernel
theorem d_QG_readGroup_52 : decode M_QG_readGroup.2.1 52 = .ok (.if_icmp .ne 7, 3) := by decide +kernel
theorem d_QG_readGroup_55 : decode M_QG_readGroup.2.1 55 = .ok (.iconst 1, 1) := by decide +kernel
theorem d_QG_readGroup_56 : decode M_QG_readGroup.2.1 56 = .ok (.goto 4, 3) := by decide +kernel
theorem d_QG_readGroup_59 : decode M_QG_readGroup.2.1 59 = .ok (.iconst 0, 1) := by decide +kernel
theorem d_QG_readGroup_60 : decode M_QG_readGroup.2.1 60 = .ok (.invokevirtual 106, 3) := by decide +kernel
theorem d_QG_readGroup_63 : decode M_QG_readGroup.2.1 63 = .ok (.istore 4, 2) := by decide +kernel
theorem d_QG_readGroup_65 : decode M_QG_readGroup.2.1 65 = .ok (.iload 4, 2) := by decide +kernel
theorem d_QG_readGroup_67 : decode M_QG_readGroup.2.1 67 = .ok (.iconst (-1), 1) := by decide +kernel
theorem d_QG_readGroup_68 : decode M_QG_readGroup.2.1 68 = .ok (.if_icmp .ne 5, 3) := by decide +kernel
theorem d_QG_readGroup_71 : decode M_QG_readGroup.2.1 71 = .ok (.iconst 0, 1) := by decide +kernel
theorem d_QG_readGroup_72 : decode M_QG_readGroup.2.1 72 = .ok (.ireturn, 1) := by decide +kernel
theorem d_QG_readGroup_73 : decode M_QG_readGroup.2.1 73 = .ok (.aload_n 0, 1) := by decide +kernel
theorem d_QG_readGroup_74 : decode M_QG_readGroup.2.1 74 = .ok (.getfield 18, 3) := by decide +kernel
theorem d_QG_readGroup_77 : decode M_QG_readGroup.2.1 77 = .ok (.iload 4, 2) := by decide +kernel
theorem d_QG_readGroup_79 : decode M_QG_readGroup.2.1 79 = .ok (.invokevirtual 278, 3) := by decide +kernel
theorem d_QG_readGroup_82 : decode M_QG_readGroup.2.1 82 = .ok (.ifCond .eq 16, 3) := by decide +kernel
theorem d_QG_readGroup_85 : decode M_QG_readGroup.2.1 85 = .ok (.aload_n 0, 1) := by decide +kernel
theorem d_QG_readGroup_86 : decode M_QG_readGroup.2.1 86 = .ok (.getfield 21, 3) := by decide +kernel
theorem d_QG_readGroup_89 : decode M_QG_readGroup.2.1 89 = .ok (.bipush 10, 2) := by decide +kernel
theorem d_QG_readGroup_91 : decode M_QG_readGroup.2.1 91 = .ok (.iload_n 3, 1) := by decide +kernel
theorem d_QG_readGroup_92 : decode M_QG_readGroup.2.1 92 = .ok (.invokevirtual 82, 3) := by decide +kernel
theorem d_QG_readGroup_95 : decode M_QG_readGroup.2.1 95 = .ok (.pop, 1) := by decide +kernel
theorem d_QG_readGroup_96 : decode M_QG_readGroup.2.1 96 = .ok (.iconst 0, 1) := by decide +kernel
theorem d_QG_readGroup_97 : decode M_QG_readGroup.2.1 97 = .ok (.ireturn, 1) := by decide +kernel
theorem d_QG_readGroup_98 : decode M_QG_readGroup.2.1 98 = .ok (.aload_n 0, 1) := by decide +kernel
theorem d_QG_readGroup_99 : decode M_QG_readGroup.2.1 99 = .ok (.getfield 18, 3) := by decide +kernel
theorem d_QG_readGroup_102 : decode M_QG_readGroup.2.1 102 = .ok (.iload 4, 2) := by decide +kernel
theorem d_QG_readGroup_104 : decode M_QG_readGroup.2.1 104 = .ok (.invokevirtual 281, 3) := by decide +kernel
theorem d_QG_readGroup_107 : decode M_QG_readGroup.2.1 107 = .ok (.iload_n 1, 1) := by decide +kernel
theorem d_QG_readGroup_108 : decode M_QG_readGroup.2.1 108 = .ok (.ifCond .ne 5, 3) := by decide +kernel
theorem d_QG_readGroup_111 : decode M_QG_readGroup.2.1 111 = .ok (.iload_n 2, 1) := by decide +kernel
theorem d_QG_readGroup_112 : decode M_QG_readGroup.2.1 112 = .ok (.ireturn, 1) := by decide +kernel
theorem d_QG_readGroup_113 : decode M_QG_readGroup.2.1 113 = .ok (.aload_n 0, 1) := by decide +kernel
theorem d_QG_readGroup_114 : decode M_QG_readGroup.2.1 114 = .ok (.getfield 21, 3) := by decide +kernel
theorem d_QG_readGroup_117 : decode M_QG_readGroup.2.1 117 = .ok (.invokevirtual 86, 3) := by decide +kernel
theorem d_QG_readGroup_120 : decode M_QG_readGroup.2.1 120 = .ok (.aload_n 0, 1) := by decide +kernel
theorem d_QG_readGroup_121 : decode M_QG_readGroup.2.1 121 = .ok (.getfield 21, 3) := by decide +kernel
theorem d_QG_readGroup_124 : decode M_QG_readGroup.2.1 124 = .ok (.getfield 53, 3) := by decide +kernel
theorem d_QG_readGroup_127 : decode M_QG_readGroup.2.1 127 = .ok (.getstatic 120, 3) := by decide +kernel
theorem d_QG_readGroup_130 : decode M_QG_readGroup.2.1 130 = .ok (.if_acmp .ne 5, 3) := by decide +kernel
theorem d_QG_readGroup_133 : decode M_QG_readGroup.2.1 133 = .ok (.iload_n 2, 1) := by decide +kernel
theorem d_QG_readGroup_134 : decode M_QG_readGroup.2.1 134 = .ok (.ireturn, 1) := by decide +kernel
theorem d_QG_readGroup_135 : decode M_QG_readGroup.2.1 135 = .ok (.aload_n 0, 1) := by decide +kernel
theorem d_QG_readGroup_136 : decode M_QG_readGroup.2.1 136 = .ok (.getfield 21, 3) := by decide +kernel
theorem d_QG_readGroup_139 : decode M_QG_readGroup.2.1 139 = .ok (.getstatic 92, 3) := by decide +kernel
theorem d_QG_readGroup_142 : decode M_QG_readGroup.2.1 142 = .ok (.invokevirtual 74, 3) := by decide +kernel
theorem d_QG_readGroup_145 : decode M_QG_readGroup.2.1 145 = .ok (.ifCond .ne 5, 3) := by decide +kernel
theorem d_QG_readGroup_148 : decode M_QG_readGroup.2.1 148 = .ok (.iconst 0, 1) := by decide +kernel
theorem d_QG_readGroup_149 : decode M_QG_readGroup.2.1 149 = .ok (.ireturn, 1) := by decide +kernel
theorem d_QG_readGroup_150 : decode M_QG_readGroup.2.1 150 = .ok (.aload_n 0, 1) := by decide +kernel
theorem d_QG_readGroup_151 : decode M_QG_readGroup.2.1 151 = .ok (.getfield 21, 3) := by decide +kernel
theorem d_QG_readGroup_154 : decode M_QG_readGroup.2.1 154 = .ok (.invokevirtual 86, 3) := by decide +kernel
theorem d_QG_readGroup_157 : decode M_QG_readGroup.2.1 157 = .ok (.iinc 2 1, 3) := by decide +kernel
theorem d_QG_readGroup_160 : decode M_QG_readGroup.2.1 160 = .ok (.goto (-132), 3) := by decide +kernel
theorem d_QG_readGroup_163 : decode M_QG_readGroup.2.1 163 = .ok (.iconst 0, 1) := by decide +kernel
theorem d_QG_readGroup_164 : decode M_QG_readGroup.2.1 164 = .ok (.ireturn, 1) := by decide +kernel
theorem k_QG_readGroup : x_kV M_QG_readGroup "QuestionReader$QuestionGrammar" 1 := ⟨⟨by decide, Or.inl ⟨w_660, rfl⟩⟩, w_659, ws_21, ⟨by decide, by decide⟩, by decide +kernel⟩
def M_QU_chosenColumns : x_M := (⟨"QuestionReader$Question", "chosenColumns", "(LQuestionReader$Kind;II)I"⟩, prog_10_method_10_code, 4, some (.int), [])
theorem d_QU_chosenColumns_0 : decode M_QU_chosenColumns.2.1 0 = .ok (.iconst 1, 1) := by decide +kernel
theorem d_QU_chosenColumns_1 : decode M_QU_chosenColumns.2.1 1 = .ok (.iload_n 1, 1) := by decide +kernel
theorem d_QU_chosenColumns_2 : decode M_QU_chosenColumns.2.1 2 = .ok (.ishl, 1) := by decide +kernel
theorem d_QU_chosenColumns_3 : decode M_QU_chosenColumns.2.1 3 = .ok (.iconst 1, 1) := by decide +kernel
theorem d_QU_chosenColumns_4 : decode M_QU_chosenColumns.2.1 4 = .ok (.isub, 1) := by decide +kernel
theorem d_QU_chosenColumns_5 : decode M_QU_chosenColumns.2.1 5 = .ok (.istore_n 3, 1) := by decide +kernel
theorem d_QU_chosenColumns_6 : decode M_QU_chosenColumns.2.1 6 = .ok (.aload_n 0, 1) := by decide +kernel
theorem d_QU_chosenColumns_7 : decode M_QU_chosenColumns.2.1 7 = .ok (.getstatic 54, 3) := by decide +kernel
theorem d_QU_chosenColumns_10 : decode M_QU_chosenColumns.2.1 10 = .ok (.if_acmp .ne 9, 3) := by decide +kernel
theorem d_QU_chosenColumns_13 : decode M_QU_chosenColumns.2.1 13 = .ok (.iload_n 3, 1) := by decide +kernel
theorem d_QU_chosenColumns_14 : decode M_QU_chosenColumns.2.1 14 = .ok (.iload_n 2, 1) := by decide +kernel
theorem d_QU_chosenColumns_15 : decode M_QU_chosenColumns.2.1 15 = .ok (.ishr, 1) := by decide +kernel
theorem d_QU_chosenColumns_16 : decode M_QU_chosenColumns.2.1 16 = .ok (.goto 6, 3) := by decide +kernel
theorem d_QU_chosenColumns_19 : decode M_QU_chosenColumns.2.1 19 = .ok (.iload_n 3, 1) := by decide +kernel
theorem d_QU_chosenColumns_20 : decode M_QU_chosenColumns.2.1 20 = .ok (.iload_n 2, 1) := by decide +kernel
theorem d_QU_chosenColumns_21 : decode M_QU_chosenColumns.2.1 21 = .ok (.isub, 1) := by decide +kernel
theorem d_QU_chosenColumns_22 : decode M_QU_chosenColumns.2.1 22 = .ok (.ireturn, 1) := by decide +kernel
theorem k_QU_chosenColumns : x_kS M_QU_chosenColumns 3 := ⟨⟨by decide, Or.inl ⟨w_678, rfl⟩⟩, w_677, w_11, ⟨by decide, by decide⟩, by decide +kernel⟩
def M_QU_addGroup : x_M := (⟨"QuestionReader$Question", "addGroup", "(LQuestionReader$Kind;I)Z"⟩, prog_10_method_8_code, 8, some (.boolean), [])
theorem d_QU_addGroup_0 : decode M_QU_addGroup.2.1 0 = .ok (.aload_n 1, 1) := by decide +kernel
theorem d_QU_addGroup_1 : decode M_QU_addGroup.2.1 1 = .ok (.getstatic 48, 3) := by decide +kernel
theorem d_QU_addGroup_4 : decode M_QU_addGroup.2.1 4 = .ok (.if_acmp .ne 9, 3) := by decide +kernel
theorem d_QU_addGroup_7 : decode M_QU_addGroup.2.1 7 = .ok (.iconst 1, 1) := by decide +kernel
theorem d_QU_addGroup_8 : decode M_QU_addGroup.2.1 8 = .ok (.iload_n 2, 1) := by decide +kernel
theorem d_QU_addGroup_9 : decode M_QU_addGroup.2.1 9 = .ok (.ishl, 1) := by decide +kernel
theorem d_QU_addGroup_10 : decode M_QU_addGroup.2.1 10 = .ok (.goto 17, 3) := by decide +kernel
theorem d_QU_addGroup_13 : decode M_QU_addGroup.2.1 13 = .ok (.aload_n 1, 1) := by decide +kernel
theorem d_QU_addGroup_14 : decode M_QU_addGroup.2.1 14 = .ok (.getstatic 54, 3) := by decide +kernel
theorem d_QU_addGroup_17 : decode M_QU_addGroup.2.1 17 = .ok (.if_acmp .ne 9, 3) := by decide +kernel
theorem d_QU_addGroup_20 : decode M_QU_addGroup.2.1 20 = .ok (.iload_n 2, 1) := by decide +kernel
theorem d_QU_addGroup_21 : decode M_QU_addGroup.2.1 21 = .ok (.iconst 1, 1) := by decide +kernel
theorem d_QU_addGroup_22 : decode M_QU_addGroup.2.1 22 = .ok (.iadd, 1) := by decide +kernel
theorem d_QU_addGroup_23 : decode M_QU_addGroup.2.1 23 = .ok (.goto 4, 3) := by decide +kernel
theorem d_QU_addGroup_26 : decode M_QU_addGroup.2.1 26 = .ok (.iconst 1, 1) := by decide +kernel
theorem d_QU_addGroup_27 : decode M_QU_addGroup.2.1 27 = .ok (.istore_n 3, 1) := by decide +kernel
theorem d_QU_addGroup_28 : decode M_QU_addGroup.2.1 28 = .ok (.iload_n 3, 1) := by decide +kernel
theorem d_QU_addGroup_29 : decode M_QU_addGroup.2.1 29 = .ok (.aload_n 0, 1) := by decide +kernel
theorem d_QU_addGroup_30 : decode M_QU_addGroup.2.1 30 = .ok (.getfield 41, 3) := by decide +kernel
theorem d_QU_addGroup_33 : decode M_QU_addGroup.2.1 33 = .ok (.imul, 1) := by decide +kernel
theorem d_QU_addGroup_34 : decode M_QU_addGroup.2.1 34 = .ok (.bipush 32, 2) := by decide +kernel
theorem d_QU_addGroup_36 : decode M_QU_addGroup.2.1 36 = .ok (.if_icmp .gt 11, 3) := by decide +kernel
theorem d_QU_addGroup_39 : decode M_QU_addGroup.2.1 39 = .ok (.iload_n 2, 1) := by decide +kernel
theorem d_QU_addGroup_40 : decode M_QU_addGroup.2.1 40 = .ok (.aload_n 0, 1) := by decide +kernel
theorem d_QU_addGroup_41 : decode M_QU_addGroup.2.1 41 = .ok (.getfield 38, 3) := by decide +kernel
theorem d_QU_addGroup_44 : decode M_QU_addGroup.2.1 44 = .ok (.if_icmp .le 5, 3) := by decide +kernel
theorem d_QU_addGroup_47 : decode M_QU_addGroup.2.1 47 = .ok (.iconst 0, 1) := by decide +kernel
theorem d_QU_addGroup_48 : decode M_QU_addGroup.2.1 48 = .ok (.ireturn, 1) := by decide +kernel
theorem d_QU_addGroup_49 : decode M_QU_addGroup.2.1 49 = .ok (.aload_n 0, 1) := by decide +kernel
theorem d_QU_addGroup_50 : decode M_QU_addGroup.2.1 50 = .ok (.getfield 38, 3) := by decide +kernel
theorem d_QU_addGroup_53 : decode M_QU_addGroup.2.1 53 = .ok (.iload_n 2, 1) := by decide +kernel
theorem d_QU_addGroup_54 : decode M_QU_addGroup.2.1 54 = .ok (.isub, 1) := by decide +kernel
theorem d_QU_addGroup_55 : decode M_QU_addGroup.2.1 55 = .ok (.istore 4, 2) := by decide +kernel
theorem d_QU_addGroup_57 : decode M_QU_addGroup.2.1 57 = .ok (.iload_n 3, 1) := by decide +kernel
theorem d_QU_addGroup_58 : decode M_QU_addGroup.2.1 58 = .ok (.iconst 1, 1) := by decide +kernel
theorem d_QU_addGroup_59 : decode M_QU_addGroup.2.1 59 = .ok (.isub, 1) := by decide +kernel
theorem d_QU_addGroup_60 : decode M_QU_addGroup.2.1 60 = .ok (.istore 5, 2) := by decide +kernel
theorem d_QU_addGroup_62 : decode M_QU_addGroup.2.1 62 = .ok (.iload 5, 2) := by decide +kernel
theorem d_QU_addGroup_64 : decode M_QU_addGroup.2.1 64 = .ok (.ifCond .lt 64, 3) := by decide +kernel
theorem d_QU_addGroup_67 : decode M_QU_addGroup.2.1 67 = .ok (.aload_n 1, 1) := by decide +kernel
theorem d_QU_addGroup_68 : decode M_QU_addGroup.2.1 68 = .ok (.iload_n 2, 1) := by decide +kernel
theorem d_QU_addGroup_69 : decode M_QU_addGroup.2.1 69 = .ok (.iload 5, 2) := by decide +kernel
theorem d_QU_addGroup_71 : decode M_QU_addGroup.2.1 71 = .ok (.invokestatic 57, 3) := by decide +kernel
theorem d_QU_addGroup_74 : decode M_QU_addGroup.2.1 74 = .ok (.iload 4, 2) := by decide +kernel
theorem d_QU_addGroup_76 : decode M_QU_addGroup.2.1 76 = .ok (.ishl, 1) := by decide +kernel
theorem d_QU_addGroup_77 : decode M_QU_addGroup.2.1 77 = .ok (.istore 6, 2) := by decide +kernel
theorem d_QU_addGroup_79 : decode M_QU_addGroup.2.1 79 = .ok (.iconst 0, 1) := by decide +kernel
theorem d_QU_addGroup_80 : decode M_QU_addGroup.2.1 80 = .ok (.istore 7, 2) := by decide +kernel
theorem d_QU_addGroup_82 : decode M_QU_addGroup.2.1 82 = .ok (.iload 7, 2) := by decide +kernel
theorem d_QU_addGroup_84 : decode M_QU_addGroup.2.1 84 = .ok (.aload_n 0, 1) := by decide +kernel
theorem d_QU_addGroup_85 : decode M_QU_addGroup.2.1 85 = .ok (.getfield 41, 3) := by decide +kernel
theorem d_QU_addGroup_88 : decode M_QU_addGroup.2.1 88 = .ok (.if_icmp .ge 34, 3) := by decide +kernel
theorem d_QU_addGroup_91 : decode M_QU_addGroup.2.1 91 = .ok (.aload_n 0, 1) := by decide +kernel
theorem d_QU_addGroup_92 : decode M_QU_addGroup.2.1 92 = .ok (.getfield 24, 3) := by decide +kernel
theorem d_QU_addGroup_95 : decode M_QU_addGroup.2.1 95 = .ok (.iload 5, 2) := by decide +kernel
theorem d_QU_addGroup_97 : decode M_QU_addGroup.2.1 97 = .ok (.aload_n 0, 1) := by decide +kernel
theorem d_QU_addGroup_98 : decode M_QU_addGroup.2.1 98 = .ok (.getfield 41, 3) := by decide +kernel
theorem d_QU_addGroup_101 : decode M_QU_addGroup.2.1 101 = .ok (.imul, 1) := by decide +kernel
theorem d_QU_addGroup_102 : decode M_QU_addGroup.2.1 102 = .ok (.iload 7, 2) := by decide +kernel
theorem d_QU_addGroup_104 : decode M_QU_addGroup.2.1 104 = .ok (.iadd, 1) := by decide +kernel
theorem d_QU_addGroup_105 : decode M_QU_addGroup.2.1 105 = .ok (.aload_n 0, 1) := by decide +kernel
theorem d_QU_addGroup_106 : decode M_QU_addGroup.2.1 106 = .ok (.getfield 24, 3) := by decide +kernel
theorem d_QU_addGroup_109 : decode M_QU_addGroup.2.1 109 = .ok (.iload 7, 2) := by decide +kernel
theorem d_QU_addGroup_111 : decode M_QU_addGroup.2.1 111 = .ok (.iaload, 1) := by decide +kernel
theorem d_QU_addGroup_112 : decode M_QU_addGroup.2.1 112 = .ok (.iload 6, 2) := by decide +kernel
theorem d_QU_addGroup_114 : decode M_QU_addGroup.2.1 114 = .ok (.ior, 1) := by decide +kernel
theorem d_QU_addGroup_115 : decode M_QU_addGroup.2.1 115 = .ok (.iastore, 1) := by decide +kernel
theorem d_QU_addGroup_116 : decode M_QU_addGroup.2.1 116 = .ok (.iinc 7 1, 3) := by decide +kernel
theorem d_QU_addGroup_119 : decode M_QU_addGroup.2.1 119 = .ok (.goto (-37), 3) := by decide +kernel
theorem d_QU_addGroup_122 : decode M_QU_addGroup.2.1 122 = .ok (.iinc 5 (-1), 3) := by decide +kernel
theorem d_QU_addGroup_125 : decode M_QU_addGroup.2.1 125 = .ok (.goto (-63), 3) := by decide +kernel
theorem d_QU_addGroup_128 : decode M_QU_addGroup.2.1 128 = .ok (.aload_n 0, 1) := by decide +kernel
theorem d_QU_addGroup_129 : decode M_QU_addGroup.2.1 129 = .ok (.dup, 1) := by decide +kernel
theorem d_QU_addGroup_130 : decode M_QU_addGroup.2.1 130 = .ok (.getfield 41, 3) := by decide +kernel
theorem d_QU_addGroup_133 : decode M_QU_addGroup.2.1 133 = .ok (.iload_n 3, 1) := by decide +kernel
theorem d_QU_addGroup_134 : decode M_QU_addGroup.2.1 134 = .ok (.imul, 1) := by decide +kernel
theorem d_QU_addGroup_135 : decode M_QU_addGroup.2.1 135 = .ok (.putfield 41, 3) := by decide +kernel
theorem d_QU_addGroup_138 : decode M_QU_addGroup.2.1 138 = .ok (.iconst 1, 1) := by decide +kernel
theorem d_QU_addGroup_139 : decode M_QU_addGroup.2.1 139 = .ok (.ireturn, 1) := by decide +kernel
theorem k_QU_addGroup : x_kV M_QU_addGroup "QuestionReader$Question" 2 := ⟨⟨by decide, Or.inl ⟨w_673, rfl⟩⟩, w_671, w_672, ⟨by decide, by decide⟩, by decide +kernel⟩
def M_QG_readGroups : x_M := (⟨"QuestionReader$QuestionGrammar", "readGroups", "()Z"⟩, prog_11_method_13_code, 5, some (.boolean), [])
theorem d_QG_readGroups_0 : decode M_QG_readGroups.2.1 0 = .ok (.aload_n 0, 1) := by decide +kernel
theorem d_QG_readGroups_1 : decode M_QG_readGroups.2.1 1 = .ok (.getfield 21, 3) := by decide +kernel
theorem d_QG_readGroups_4 : decode M_QG_readGroups.2.1 4 = .ok (.getfield 95, 3) := by decide +kernel
theorem d_QG_readGroups_7 : decode M_QG_readGroups.2.1 7 = .ok (.istore_n 1, 1) := by decide +kernel
theorem d_QG_readGroups_8 : decode M_QG_readGroups.2.1 8 = .ok (.aload_n 0, 1) := by decide +kernel
theorem d_QG_readGroups_9 : decode M_QG_readGroups.2.1 9 = .ok (.getfield 21, 3) := by decide +kernel
theorem d_QG_readGroups_12 : decode M_QG_readGroups.2.1 12 = .ok (.getstatic 259, 3) := by decide +kernel
theorem d_QG_readGroups_15 : decode M_QG_readGroups.2.1 15 = .ok (.invokevirtual 113, 3) := by decide +kernel
theorem d_QG_readGroups_18 : decode M_QG_readGroups.2.1 18 = .ok (.ifCond .ne 5, 3) := by decide +kernel
theorem d_QG_readGroups_21 : decode M_QG_readGroups.2.1 21 = .ok (.iconst 0, 1) := by decide +kernel
theorem d_QG_readGroups_22 : decode M_QG_readGroups.2.1 22 = .ok (.ireturn, 1) := by decide +kernel
theorem d_QG_readGroups_23 : decode M_QG_readGroups.2.1 23 = .ok (.iconst 0, 1) := by decide +kernel
theorem d_QG_readGroups_24 : decode M_QG_readGroups.2.1 24 = .ok (.istore_n 2, 1) := by decide +kernel
theorem d_QG_readGroups_25 : decode M_QG_readGroups.2.1 25 = .ok (.iload_n 2, 1) := by decide +kernel
theorem d_QG_readGroups_26 : decode M_QG_readGroups.2.1 26 = .ok (.bipush 8, 2) := by decide +kernel
theorem d_QG_readGroups_28 : decode M_QG_readGroups.2.1 28 = .ok (.if_icmp .gt 102, 3) := by decide +kernel
theorem d_QG_readGroups_31 : decode M_QG_readGroups.2.1 31 = .ok (.aload_n 0, 1) := by decide +kernel
theorem d_QG_readGroups_32 : decode M_QG_readGroups.2.1 32 = .ok (.getfield 21, 3) := by decide +kernel
theorem d_QG_readGroups_35 : decode M_QG_readGroups.2.1 35 = .ok (.invokevirtual 86, 3) := by decide +kernel
theorem d_QG_readGroups_38 : decode M_QG_readGroups.2.1 38 = .ok (.aload_n 0, 1) := by decide +kernel
theorem d_QG_readGroups_39 : decode M_QG_readGroups.2.1 39 = .ok (.getfield 21, 3) := by decide +kernel
theorem d_QG_readGroups_42 : decode M_QG_readGroups.2.1 42 = .ok (.getfield 53, 3) := by decide +kernel
theorem d_QG_readGroups_45 : decode M_QG_readGroups.2.1 45 = .ok (.astore_n 3, 1) := by decide +kernel
theorem d_QG_readGroups_46 : decode M_QG_readGroups.2.1 46 = .ok (.aload_n 0, 1) := by decide +kernel
theorem d_QG_readGroups_47 : decode M_QG_readGroups.2.1 47 = .ok (.aload_n 3, 1) := by decide +kernel
theorem d_QG_readGroups_48 : decode M_QG_readGroups.2.1 48 = .ok (.getstatic 262, 3) := by decide +kernel
theorem d_QG_readGroups_51 : decode M_QG_readGroups.2.1 51 = .ok (.if_acmp .eq 10, 3) := by decide +kernel
theorem d_QG_readGroups_54 : decode M_QG_readGroups.2.1 54 = .ok (.aload_n 3, 1) := by decide +kernel
theorem d_QG_readGroups_55 : decode M_QG_readGroups.2.1 55 = .ok (.getstatic 265, 3) := by decide +kernel
theorem d_QG_readGroups_58 : decode M_QG_readGroups.2.1 58 = .ok (.if_acmp .ne 7, 3) := by decide +kernel
theorem d_QG_readGroups_61 : decode M_QG_readGroups.2.1 61 = .ok (.iconst 1, 1) := by decide +kernel
theorem d_QG_readGroups_62 : decode M_QG_readGroups.2.1 62 = .ok (.goto 4, 3) := by decide +kernel
theorem d_QG_readGroups_65 : decode M_QG_readGroups.2.1 65 = .ok (.iconst 0, 1) := by decide +kernel
theorem d_QG_readGroups_66 : decode M_QG_readGroups.2.1 66 = .ok (.invokevirtual 268, 3) := by decide +kernel
theorem d_QG_readGroups_69 : decode M_QG_readGroups.2.1 69 = .ok (.istore 4, 2) := by decide +kernel
theorem d_QG_readGroups_71 : decode M_QG_readGroups.2.1 71 = .ok (.iload 4, 2) := by decide +kernel
theorem d_QG_readGroups_73 : decode M_QG_readGroups.2.1 73 = .ok (.ifCond .ne 5, 3) := by decide +kernel
theorem d_QG_readGroups_76 : decode M_QG_readGroups.2.1 76 = .ok (.iconst 0, 1) := by decide +kernel
theorem d_QG_readGroups_77 : decode M_QG_readGroups.2.1 77 = .ok (.ireturn, 1) := by decide +kernel
theorem d_QG_readGroups_78 : decode M_QG_readGroups.2.1 78 = .ok (.aload_n 0, 1) := by decide +kernel
theorem d_QG_readGroups_79 : decode M_QG_readGroups.2.1 79 = .ok (.getfield 18, 3) := by decide +kernel
theorem d_QG_readGroups_82 : decode M_QG_readGroups.2.1 82 = .ok (.aload_n 3, 1) := by decide +kernel
theorem d_QG_readGroups_83 : decode M_QG_readGroups.2.1 83 = .ok (.iload 4, 2) := by decide +kernel
theorem d_QG_readGroups_85 : decode M_QG_readGroups.2.1 85 = .ok (.invokevirtual 271, 3) := by decide +kernel
theorem d_QG_readGroups_88 : decode M_QG_readGroups.2.1 88 = .ok (.ifCond .ne 14, 3) := by decide +kernel
theorem d_QG_readGroups_91 : decode M_QG_readGroups.2.1 91 = .ok (.aload_n 0, 1) := by decide +kernel
theorem d_QG_readGroups_92 : decode M_QG_readGroups.2.1 92 = .ok (.getfield 21, 3) := by decide +kernel
theorem d_QG_readGroups_95 : decode M_QG_readGroups.2.1 95 = .ok (.bipush 7, 2) := by decide +kernel
theorem d_QG_readGroups_97 : decode M_QG_readGroups.2.1 97 = .ok (.iload_n 1, 1) := by decide +kernel
theorem d_QG_readGroups_98 : decode M_QG_readGroups.2.1 98 = .ok (.invokevirtual 82, 3) := by decide +kernel
theorem d_QG_readGroups_101 : decode M_QG_readGroups.2.1 101 = .ok (.ireturn, 1) := by decide +kernel
theorem d_QG_readGroups_102 : decode M_QG_readGroups.2.1 102 = .ok (.aload_n 0, 1) := by decide +kernel
theorem d_QG_readGroups_103 : decode M_QG_readGroups.2.1 103 = .ok (.getfield 21, 3) := by decide +kernel
theorem d_QG_readGroups_106 : decode M_QG_readGroups.2.1 106 = .ok (.invokevirtual 86, 3) := by decide +kernel
theorem d_QG_readGroups_109 : decode M_QG_readGroups.2.1 109 = .ok (.aload_n 0, 1) := by decide +kernel
theorem d_QG_readGroups_110 : decode M_QG_readGroups.2.1 110 = .ok (.getfield 21, 3) := by decide +kernel
theorem d_QG_readGroups_113 : decode M_QG_readGroups.2.1 113 = .ok (.getfield 53, 3) := by decide +kernel
theorem d_QG_readGroups_116 : decode M_QG_readGroups.2.1 116 = .ok (.getstatic 92, 3) := by decide +kernel
theorem d_QG_readGroups_119 : decode M_QG_readGroups.2.1 119 = .ok (.if_acmp .eq 5, 3) := by decide +kernel
theorem d_QG_readGroups_122 : decode M_QG_readGroups.2.1 122 = .ok (.iconst 1, 1) := by decide +kernel
theorem d_QG_readGroups_123 : decode M_QG_readGroups.2.1 123 = .ok (.ireturn, 1) := by decide +kernel
theorem d_QG_readGroups_124 : decode M_QG_readGroups.2.1 124 = .ok (.iinc 2 1, 3) := by decide +kernel
theorem d_QG_readGroups_127 : decode M_QG_readGroups.2.1 127 = .ok (.goto (-102), 3) := by decide +kernel
theorem d_QG_readGroups_130 : decode M_QG_readGroups.2.1 130 = .ok (.iconst 0, 1) := by decide +kernel
theorem d_QG_readGroups_131 : decode M_QG_readGroups.2.1 131 = .ok (.ireturn, 1) := by decide +kernel
theorem k_QG_readGroups : x_kV M_QG_readGroups "QuestionReader$QuestionGrammar" 0 := ⟨⟨by decide, Or.inl ⟨w_650, rfl⟩⟩, w_649, ws_20, ⟨by decide, by decide⟩, by decide +kernel⟩
def M_QG_itemType : x_M := (⟨"QuestionReader$QuestionGrammar", "itemType", "(LQuestionReader$Kind;)I"⟩, prog_11_method_15_code, 1, some (.int), [])
theorem d_QG_itemType_0 : decode M_QG_itemType.2.1 0 = .ok (.aload_n 0, 1) := by decide +kernel
theorem d_QG_itemType_1 : decode M_QG_itemType.2.1 1 = .ok (.getstatic 284, 3) := by decide +kernel
theorem d_QG_itemType_4 : decode M_QG_itemType.2.1 4 = .ok (.if_acmp .ne 5, 3) := by decide +kernel
theorem d_QG_itemType_7 : decode M_QG_itemType.2.1 7 = .ok (.iconst 1, 1) := by decide +kernel
theorem d_QG_itemType_8 : decode M_QG_itemType.2.1 8 = .ok (.ireturn, 1) := by decide +kernel
theorem d_QG_itemType_9 : decode M_QG_itemType.2.1 9 = .ok (.aload_n 0, 1) := by decide +kernel
theorem d_QG_itemType_10 : decode M_QG_itemType.2.1 10 = .ok (.getstatic 287, 3) := by decide +kernel
theorem d_QG_itemType_13 : decode M_QG_itemType.2.1 13 = .ok (.if_acmp .ne 5, 3) := by decide +kernel
theorem d_QG_itemType_16 : decode M_QG_itemType.2.1 16 = .ok (.iconst 2, 1) := by decide +kernel
theorem d_QG_itemType_17 : decode M_QG_itemType.2.1 17 = .ok (.ireturn, 1) := by decide +kernel
theorem d_QG_itemType_18 : decode M_QG_itemType.2.1 18 = .ok (.aload_n 0, 1) := by decide +kernel
theorem d_QG_itemType_19 : decode M_QG_itemType.2.1 19 = .ok (.getstatic 290, 3) := by decide +kernel
theorem d_QG_itemType_22 : decode M_QG_itemType.2.1 22 = .ok (.if_acmp .ne 5, 3) := by decide +kernel
theorem d_QG_itemType_25 : decode M_QG_itemType.2.1 25 = .ok (.iconst 3, 1) := by decide +kernel
theorem d_QG_itemType_26 : decode M_QG_itemType.2.1 26 = .ok (.ireturn, 1) := by decide +kernel
theorem d_QG_itemType_27 : decode M_QG_itemType.2.1 27 = .ok (.aload_n 0, 1) := by decide +kernel
theorem d_QG_itemType_28 : decode M_QG_itemType.2.1 28 = .ok (.getstatic 293, 3) := by decide +kernel
theorem d_QG_itemType_31 : decode M_QG_itemType.2.1 31 = .ok (.if_acmp .ne 5, 3) := by decide +kernel
theorem d_QG_itemType_34 : decode M_QG_itemType.2.1 34 = .ok (.iconst 4, 1) := by decide +kernel
theorem d_QG_itemType_35 : decode M_QG_itemType.2.1 35 = .ok (.ireturn, 1) := by decide +kernel
theorem d_QG_itemType_36 : decode M_QG_itemType.2.1 36 = .ok (.aload_n 0, 1) := by decide +kernel
theorem d_QG_itemType_37 : decode M_QG_itemType.2.1 37 = .ok (.getstatic 296, 3) := by decide +kernel
theorem d_QG_itemType_40 : decode M_QG_itemType.2.1 40 = .ok (.if_acmp .ne 7, 3) := by decide +kernel
theorem d_QG_itemType_43 : decode M_QG_itemType.2.1 43 = .ok (.iconst 5, 1) := by decide +kernel
theorem d_QG_itemType_44 : decode M_QG_itemType.2.1 44 = .ok (.goto 4, 3) := by decide +kernel
theorem d_QG_itemType_47 : decode M_QG_itemType.2.1 47 = .ok (.iconst 0, 1) := by decide +kernel
theorem d_QG_itemType_48 : decode M_QG_itemType.2.1 48 = .ok (.ireturn, 1) := by decide +kernel
theorem k_QG_itemType : x_kS M_QG_itemType 1 := ⟨⟨by decide, Or.inl ⟨w_458, rfl⟩⟩, w_457, w_10, ⟨by decide, by decide⟩, by decide +kernel⟩
def M_QG_readSummed : x_M := (⟨"QuestionReader$QuestionGrammar", "readSummed", "(I)I"⟩, prog_11_method_5_code, 2, some (.int), [])
theorem d_QG_readSummed_0 : decode M_QG_readSummed.2.1 0 = .ok (.iload_n 1, 1) := by decide +kernel
theorem d_QG_readSummed_1 : decode M_QG_readSummed.2.1 1 = .ok (.iconst 4, 1) := by decide +kernel
theorem d_QG_readSummed_2 : decode M_QG_readSummed.2.1 2 = .ok (.if_icmp .ne 22, 3) := by decide +kernel
theorem d_QG_readSummed_5 : decode M_QG_readSummed.2.1 5 = .ok (.aload_n 0, 1) := by decide +kernel
theorem d_QG_readSummed_6 : decode M_QG_readSummed.2.1 6 = .ok (.getfield 21, 3) := by decide +kernel
theorem d_QG_readSummed_9 : decode M_QG_readSummed.2.1 9 = .ok (.getstatic 127, 3) := by decide +kernel
theorem d_QG_readSummed_12 : decode M_QG_readSummed.2.1 12 = .ok (.invokevirtual 74, 3) := by decide +kernel
theorem d_QG_readSummed_15 : decode M_QG_readSummed.2.1 15 = .ok (.ifCond .eq 7, 3) := by decide +kernel
theorem d_QG_readSummed_18 : decode M_QG_readSummed.2.1 18 = .ok (.iconst 0, 1) := by decide +kernel
theorem d_QG_readSummed_19 : decode M_QG_readSummed.2.1 19 = .ok (.goto 4, 3) := by decide +kernel
theorem d_QG_readSummed_22 : decode M_QG_readSummed.2.1 22 = .ok (.iconst (-1), 1) := by decide +kernel
theorem d_QG_readSummed_23 : decode M_QG_readSummed.2.1 23 = .ok (.ireturn, 1) := by decide +kernel
theorem d_QG_readSummed_24 : decode M_QG_readSummed.2.1 24 = .ok (.aload_n 0, 1) := by decide +kernel
theorem d_QG_readSummed_25 : decode M_QG_readSummed.2.1 25 = .ok (.getfield 35, 3) := by decide +kernel
theorem d_QG_readSummed_28 : decode M_QG_readSummed.2.1 28 = .ok (.bipush 40, 2) := by decide +kernel
theorem d_QG_readSummed_30 : decode M_QG_readSummed.2.1 30 = .ok (.aload_n 0, 1) := by decide +kernel
theorem d_QG_readSummed_31 : decode M_QG_readSummed.2.1 31 = .ok (.getfield 25, 3) := by decide +kernel
theorem d_QG_readSummed_34 : decode M_QG_readSummed.2.1 34 = .ok (.getfield 132, 3) := by decide +kernel
theorem d_QG_readSummed_37 : decode M_QG_readSummed.2.1 37 = .ok (.aload_n 0, 1) := by decide +kernel
theorem d_QG_readSummed_38 : decode M_QG_readSummed.2.1 38 = .ok (.getfield 21, 3) := by decide +kernel
theorem d_QG_readSummed_41 : decode M_QG_readSummed.2.1 41 = .ok (.invokevirtual 135, 3) := by decide +kernel
theorem d_QG_readSummed_44 : decode M_QG_readSummed.2.1 44 = .ok (.ireturn, 1) := by decide +kernel
theorem k_QG_readSummed : x_kV M_QG_readSummed "QuestionReader$QuestionGrammar" 1 := ⟨⟨by decide, Or.inl ⟨w_509, rfl⟩⟩, w_508, ws_10, ⟨by decide, by decide⟩, by decide +kernel⟩
def M_QU_addItem : x_M := (⟨"QuestionReader$Question", "addItem", "(III)V"⟩, prog_10_method_5_code, 4, none, [])
theorem d_QU_addItem_0 : decode M_QU_addItem.2.1 0 = .ok (.aload_n 0, 1) := by decide +kernel
theorem d_QU_addItem_1 : decode M_QU_addItem.2.1 1 = .ok (.getfield 34, 3) := by decide +kernel
theorem d_QU_addItem_4 : decode M_QU_addItem.2.1 4 = .ok (.bipush 24, 2) := by decide +kernel
theorem d_QU_addItem_6 : decode M_QU_addItem.2.1 6 = .ok (.if_icmp .ge 43, 3) := by decide +kernel
theorem d_QU_addItem_9 : decode M_QU_addItem.2.1 9 = .ok (.aload_n 0, 1) := by decide +kernel
theorem d_QU_addItem_10 : decode M_QU_addItem.2.1 10 = .ok (.getfield 11, 3) := by decide +kernel
theorem d_QU_addItem_13 : decode M_QU_addItem.2.1 13 = .ok (.aload_n 0, 1) := by decide +kernel
theorem d_QU_addItem_14 : decode M_QU_addItem.2.1 14 = .ok (.getfield 34, 3) := by decide +kernel
theorem d_QU_addItem_17 : decode M_QU_addItem.2.1 17 = .ok (.iload_n 1, 1) := by decide +kernel
theorem d_QU_addItem_18 : decode M_QU_addItem.2.1 18 = .ok (.iastore, 1) := by decide +kernel
theorem d_QU_addItem_19 : decode M_QU_addItem.2.1 19 = .ok (.aload_n 0, 1) := by decide +kernel
theorem d_QU_addItem_20 : decode M_QU_addItem.2.1 20 = .ok (.getfield 15, 3) := by decide +kernel
theorem d_QU_addItem_23 : decode M_QU_addItem.2.1 23 = .ok (.aload_n 0, 1) := by decide +kernel
theorem d_QU_addItem_24 : decode M_QU_addItem.2.1 24 = .ok (.getfield 34, 3) := by decide +kernel
theorem d_QU_addItem_27 : decode M_QU_addItem.2.1 27 = .ok (.iload_n 2, 1) := by decide +kernel
theorem d_QU_addItem_28 : decode M_QU_addItem.2.1 28 = .ok (.iastore, 1) := by decide +kernel
theorem d_QU_addItem_29 : decode M_QU_addItem.2.1 29 = .ok (.aload_n 0, 1) := by decide +kernel
theorem d_QU_addItem_30 : decode M_QU_addItem.2.1 30 = .ok (.getfield 18, 3) := by decide +kernel
theorem d_QU_addItem_33 : decode M_QU_addItem.2.1 33 = .ok (.aload_n 0, 1) := by decide +kernel
theorem d_QU_addItem_34 : decode M_QU_addItem.2.1 34 = .ok (.getfield 34, 3) := by decide +kernel
theorem d_QU_addItem_37 : decode M_QU_addItem.2.1 37 = .ok (.iload_n 3, 1) := by decide +kernel
theorem d_QU_addItem_38 : decode M_QU_addItem.2.1 38 = .ok (.iastore, 1) := by decide +kernel
theorem d_QU_addItem_39 : decode M_QU_addItem.2.1 39 = .ok (.aload_n 0, 1) := by decide +kernel
theorem d_QU_addItem_40 : decode M_QU_addItem.2.1 40 = .ok (.dup, 1) := by decide +kernel
theorem d_QU_addItem_41 : decode M_QU_addItem.2.1 41 = .ok (.getfield 34, 3) := by decide +kernel
theorem d_QU_addItem_44 : decode M_QU_addItem.2.1 44 = .ok (.iconst 1, 1) := by decide +kernel
theorem d_QU_addItem_45 : decode M_QU_addItem.2.1 45 = .ok (.iadd, 1) := by decide +kernel
theorem d_QU_addItem_46 : decode M_QU_addItem.2.1 46 = .ok (.putfield 34, 3) := by decide +kernel
theorem d_QU_addItem_49 : decode M_QU_addItem.2.1 49 = .ok (.return_, 1) := by decide +kernel
theorem k_QU_addItem : x_kV M_QU_addItem "QuestionReader$Question" 3 := ⟨⟨by decide, Or.inl ⟨w_518, rfl⟩⟩, w_516, w_517, ⟨by decide, by decide⟩, by decide +kernel⟩
def M_QG_readItem : x_M := (⟨"QuestionReader$QuestionGrammar", "readItem", "()Z"⟩, prog_11_method_4_code, 5, some (.boolean), [])
theorem d_QG_readItem_0 : decode M_QG_readItem.2.1 0 = .ok (.aload_n 0, 1) := by decide +kernel
theorem d_QG_readItem_1 : decode M_QG_readItem.2.1 1 = .ok (.getfield 21, 3) := by decide +kernel
theorem d_QG_readItem_4 : decode M_QG_readItem.2.1 4 = .ok (.getfield 95, 3) := by decide +kernel
theorem d_QG_readItem_7 : decode M_QG_readItem.2.1 7 = .ok (.istore_n 1, 1) := by decide +kernel
theorem d_QG_readItem_8 : decode M_QG_readItem.2.1 8 = .ok (.aload_n 0, 1) := by decide +kernel
theorem d_QG_readItem_9 : decode M_QG_readItem.2.1 9 = .ok (.getfield 21, 3) := by decide +kernel
theorem d_QG_readItem_12 : decode M_QG_readItem.2.1 12 = .ok (.getfield 53, 3) := by decide +kernel
theorem d_QG_readItem_15 : decode M_QG_readItem.2.1 15 = .ok (.invokestatic 99, 3) := by decide +kernel
theorem d_QG_readItem_18 : decode M_QG_readItem.2.1 18 = .ok (.istore_n 2, 1) := by decide +kernel
theorem d_QG_readItem_19 : decode M_QG_readItem.2.1 19 = .ok (.aload_n 0, 1) := by decide +kernel
theorem d_QG_readItem_20 : decode M_QG_readItem.2.1 20 = .ok (.getfield 18, 3) := by decide +kernel
theorem d_QG_readItem_23 : decode M_QG_readItem.2.1 23 = .ok (.getfield 103, 3) := by decide +kernel
theorem d_QG_readItem_26 : decode M_QG_readItem.2.1 26 = .ok (.bipush 24, 2) := by decide +kernel
theorem d_QG_readItem_28 : decode M_QG_readItem.2.1 28 = .ok (.if_icmp .ne 7, 3) := by decide +kernel
theorem d_QG_readItem_31 : decode M_QG_readItem.2.1 31 = .ok (.iconst 1, 1) := by decide +kernel
theorem d_QG_readItem_32 : decode M_QG_readItem.2.1 32 = .ok (.goto 4, 3) := by decide +kernel
theorem d_QG_readItem_35 : decode M_QG_readItem.2.1 35 = .ok (.iconst 0, 1) := by decide +kernel
theorem d_QG_readItem_36 : decode M_QG_readItem.2.1 36 = .ok (.istore_n 3, 1) := by decide +kernel
theorem d_QG_readItem_37 : decode M_QG_readItem.2.1 37 = .ok (.iload_n 2, 1) := by decide +kernel
theorem d_QG_readItem_38 : decode M_QG_readItem.2.1 38 = .ok (.ifCond .ne 13, 3) := by decide +kernel
theorem d_QG_readItem_41 : decode M_QG_readItem.2.1 41 = .ok (.aload_n 0, 1) := by decide +kernel
theorem d_QG_readItem_42 : decode M_QG_readItem.2.1 42 = .ok (.iload_n 3, 1) := by decide +kernel
theorem d_QG_readItem_43 : decode M_QG_readItem.2.1 43 = .ok (.invokevirtual 106, 3) := by decide +kernel
theorem d_QG_readItem_46 : decode M_QG_readItem.2.1 46 = .ok (.istore 4, 2) := by decide +kernel
theorem d_QG_readItem_48 : decode M_QG_readItem.2.1 48 = .ok (.goto 80, 3) := by decide +kernel
theorem d_QG_readItem_51 : decode M_QG_readItem.2.1 51 = .ok (.iload_n 3, 1) := by decide +kernel
theorem d_QG_readItem_52 : decode M_QG_readItem.2.1 52 = .ok (.ifCond .eq 13, 3) := by decide +kernel
theorem d_QG_readItem_55 : decode M_QG_readItem.2.1 55 = .ok (.aload_n 0, 1) := by decide +kernel
theorem d_QG_readItem_56 : decode M_QG_readItem.2.1 56 = .ok (.getfield 21, 3) := by decide +kernel
theorem d_QG_readItem_59 : decode M_QG_readItem.2.1 59 = .ok (.bipush 7, 2) := by decide +kernel
theorem d_QG_readItem_61 : decode M_QG_readItem.2.1 61 = .ok (.invokevirtual 42, 3) := by decide +kernel
theorem d_QG_readItem_64 : decode M_QG_readItem.2.1 64 = .ok (.ireturn, 1) := by decide +kernel
theorem d_QG_readItem_65 : decode M_QG_readItem.2.1 65 = .ok (.aload_n 0, 1) := by decide +kernel
theorem d_QG_readItem_66 : decode M_QG_readItem.2.1 66 = .ok (.getfield 21, 3) := by decide +kernel
theorem d_QG_readItem_69 : decode M_QG_readItem.2.1 69 = .ok (.getstatic 110, 3) := by decide +kernel
theorem d_QG_readItem_72 : decode M_QG_readItem.2.1 72 = .ok (.invokevirtual 113, 3) := by decide +kernel
theorem d_QG_readItem_75 : decode M_QG_readItem.2.1 75 = .ok (.ifCond .ne 5, 3) := by decide +kernel
theorem d_QG_readItem_78 : decode M_QG_readItem.2.1 78 = .ok (.iconst 0, 1) := by decide +kernel
theorem d_QG_readItem_79 : decode M_QG_readItem.2.1 79 = .ok (.ireturn, 1) := by decide +kernel
theorem d_QG_readItem_80 : decode M_QG_readItem.2.1 80 = .ok (.aload_n 0, 1) := by decide +kernel
theorem d_QG_readItem_81 : decode M_QG_readItem.2.1 81 = .ok (.getfield 21, 3) := by decide +kernel
theorem d_QG_readItem_84 : decode M_QG_readItem.2.1 84 = .ok (.invokevirtual 86, 3) := by decide +kernel
theorem d_QG_readItem_87 : decode M_QG_readItem.2.1 87 = .ok (.iload_n 2, 1) := by decide +kernel
theorem d_QG_readItem_88 : decode M_QG_readItem.2.1 88 = .ok (.iconst 5, 1) := by decide +kernel
theorem d_QG_readItem_89 : decode M_QG_readItem.2.1 89 = .ok (.if_icmp .ne 11, 3) := by decide +kernel
theorem d_QG_readItem_92 : decode M_QG_readItem.2.1 92 = .ok (.aload_n 0, 1) := by decide +kernel
theorem d_QG_readItem_93 : decode M_QG_readItem.2.1 93 = .ok (.iconst 0, 1) := by decide +kernel
theorem d_QG_readItem_94 : decode M_QG_readItem.2.1 94 = .ok (.invokevirtual 106, 3) := by decide +kernel
theorem d_QG_readItem_97 : decode M_QG_readItem.2.1 97 = .ok (.goto 8, 3) := by decide +kernel
theorem d_QG_readItem_100 : decode M_QG_readItem.2.1 100 = .ok (.aload_n 0, 1) := by decide +kernel
theorem d_QG_readItem_101 : decode M_QG_readItem.2.1 101 = .ok (.iload_n 2, 1) := by decide +kernel
theorem d_QG_readItem_102 : decode M_QG_readItem.2.1 102 = .ok (.invokevirtual 116, 3) := by decide +kernel
theorem d_QG_readItem_105 : decode M_QG_readItem.2.1 105 = .ok (.istore 4, 2) := by decide +kernel
theorem d_QG_readItem_107 : decode M_QG_readItem.2.1 107 = .ok (.iload 4, 2) := by decide +kernel
theorem d_QG_readItem_109 : decode M_QG_readItem.2.1 109 = .ok (.iconst (-1), 1) := by decide +kernel
theorem d_QG_readItem_110 : decode M_QG_readItem.2.1 110 = .ok (.if_icmp .eq 16, 3) := by decide +kernel
theorem d_QG_readItem_113 : decode M_QG_readItem.2.1 113 = .ok (.aload_n 0, 1) := by decide +kernel
theorem d_QG_readItem_114 : decode M_QG_readItem.2.1 114 = .ok (.getfield 21, 3) := by decide +kernel
theorem d_QG_readItem_117 : decode M_QG_readItem.2.1 117 = .ok (.getstatic 120, 3) := by decide +kernel
theorem d_QG_readItem_120 : decode M_QG_readItem.2.1 120 = .ok (.invokevirtual 113, 3) := by decide +kernel
theorem d_QG_readItem_123 : decode M_QG_readItem.2.1 123 = .ok (.ifCond .ne 5, 3) := by decide +kernel
theorem d_QG_readItem_126 : decode M_QG_readItem.2.1 126 = .ok (.iconst 0, 1) := by decide +kernel
theorem d_QG_readItem_127 : decode M_QG_readItem.2.1 127 = .ok (.ireturn, 1) := by decide +kernel
theorem d_QG_readItem_128 : decode M_QG_readItem.2.1 128 = .ok (.aload_n 0, 1) := by decide +kernel
theorem d_QG_readItem_129 : decode M_QG_readItem.2.1 129 = .ok (.getfield 18, 3) := by decide +kernel
theorem d_QG_readItem_132 : decode M_QG_readItem.2.1 132 = .ok (.iload_n 2, 1) := by decide +kernel
theorem d_QG_readItem_133 : decode M_QG_readItem.2.1 133 = .ok (.iload 4, 2) := by decide +kernel
theorem d_QG_readItem_135 : decode M_QG_readItem.2.1 135 = .ok (.iload_n 1, 1) := by decide +kernel
theorem d_QG_readItem_136 : decode M_QG_readItem.2.1 136 = .ok (.invokevirtual 123, 3) := by decide +kernel
theorem d_QG_readItem_139 : decode M_QG_readItem.2.1 139 = .ok (.iload 4, 2) := by decide +kernel
theorem d_QG_readItem_141 : decode M_QG_readItem.2.1 141 = .ok (.iconst (-1), 1) := by decide +kernel
theorem d_QG_readItem_142 : decode M_QG_readItem.2.1 142 = .ok (.if_icmp .eq 7, 3) := by decide +kernel
theorem d_QG_readItem_145 : decode M_QG_readItem.2.1 145 = .ok (.iconst 1, 1) := by decide +kernel
theorem d_QG_readItem_146 : decode M_QG_readItem.2.1 146 = .ok (.goto 4, 3) := by decide +kernel
theorem d_QG_readItem_149 : decode M_QG_readItem.2.1 149 = .ok (.iconst 0, 1) := by decide +kernel
theorem d_QG_readItem_150 : decode M_QG_readItem.2.1 150 = .ok (.ireturn, 1) := by decide +kernel
theorem k_QG_readItem : x_kV M_QG_readItem "QuestionReader$QuestionGrammar" 0 := ⟨⟨by decide, Or.inl ⟨w_455, rfl⟩⟩, w_454, ws_7, ⟨by decide, by decide⟩, by decide +kernel⟩
def M_QG_readItems : x_M := (⟨"QuestionReader$QuestionGrammar", "readItems", "()Z"⟩, prog_11_method_3_code, 2, some (.boolean), [])
theorem d_QG_readItems_0 : decode M_QG_readItems.2.1 0 = .ok (.iconst 0, 1) := by decide +kernel
theorem d_QG_readItems_1 : decode M_QG_readItems.2.1 1 = .ok (.istore_n 1, 1) := by decide +kernel
theorem d_QG_readItems_2 : decode M_QG_readItems.2.1 2 = .ok (.iload_n 1, 1) := by decide +kernel
theorem d_QG_readItems_3 : decode M_QG_readItems.2.1 3 = .ok (.bipush 24, 2) := by decide +kernel
theorem d_QG_readItems_5 : decode M_QG_readItems.2.1 5 = .ok (.if_icmp .gt 47, 3) := by decide +kernel
theorem d_QG_readItems_8 : decode M_QG_readItems.2.1 8 = .ok (.aload_n 0, 1) := by decide +kernel
theorem d_QG_readItems_9 : decode M_QG_readItems.2.1 9 = .ok (.getfield 21, 3) := by decide +kernel
theorem d_QG_readItems_12 : decode M_QG_readItems.2.1 12 = .ok (.invokevirtual 86, 3) := by decide +kernel
theorem d_QG_readItems_15 : decode M_QG_readItems.2.1 15 = .ok (.aload_n 0, 1) := by decide +kernel
theorem d_QG_readItems_16 : decode M_QG_readItems.2.1 16 = .ok (.invokevirtual 89, 3) := by decide +kernel
theorem d_QG_readItems_19 : decode M_QG_readItems.2.1 19 = .ok (.ifCond .ne 5, 3) := by decide +kernel
theorem d_QG_readItems_22 : decode M_QG_readItems.2.1 22 = .ok (.iconst 0, 1) := by decide +kernel
theorem d_QG_readItems_23 : decode M_QG_readItems.2.1 23 = .ok (.ireturn, 1) := by decide +kernel
theorem d_QG_readItems_24 : decode M_QG_readItems.2.1 24 = .ok (.aload_n 0, 1) := by decide +kernel
theorem d_QG_readItems_25 : decode M_QG_readItems.2.1 25 = .ok (.getfield 21, 3) := by decide +kernel
theorem d_QG_readItems_28 : decode M_QG_readItems.2.1 28 = .ok (.invokevirtual 86, 3) := by decide +kernel
theorem d_QG_readItems_31 : decode M_QG_readItems.2.1 31 = .ok (.aload_n 0, 1) := by decide +kernel
theorem d_QG_readItems_32 : decode M_QG_readItems.2.1 32 = .ok (.getfield 21, 3) := by decide +kernel
theorem d_QG_readItems_35 : decode M_QG_readItems.2.1 35 = .ok (.getfield 53, 3) := by decide +kernel
theorem d_QG_readItems_38 : decode M_QG_readItems.2.1 38 = .ok (.getstatic 92, 3) := by decide +kernel
theorem d_QG_readItems_41 : decode M_QG_readItems.2.1 41 = .ok (.if_acmp .eq 5, 3) := by decide +kernel
theorem d_QG_readItems_44 : decode M_QG_readItems.2.1 44 = .ok (.iconst 1, 1) := by decide +kernel
theorem d_QG_readItems_45 : decode M_QG_readItems.2.1 45 = .ok (.ireturn, 1) := by decide +kernel
theorem d_QG_readItems_46 : decode M_QG_readItems.2.1 46 = .ok (.iinc 1 1, 3) := by decide +kernel
theorem d_QG_readItems_49 : decode M_QG_readItems.2.1 49 = .ok (.goto (-47), 3) := by decide +kernel
theorem d_QG_readItems_52 : decode M_QG_readItems.2.1 52 = .ok (.iconst 0, 1) := by decide +kernel
theorem d_QG_readItems_53 : decode M_QG_readItems.2.1 53 = .ok (.ireturn, 1) := by decide +kernel
theorem k_QG_readItems : x_kV M_QG_readItems "QuestionReader$QuestionGrammar" 0 := ⟨⟨by decide, Or.inl ⟨w_450, rfl⟩⟩, w_449, ws_6, ⟨by decide, by decide⟩, by decide +kernel⟩
def B_QG_readColumn_116   (s0 : Int32) (m : x_m) : Option (Int32 × x_m) := some (s0, m)
theorem b_QG_readColumn_116 {G : x_G} {ex : Bool} {r : Int32 × x_m}   {s0 : Int32} {m : x_m} (h : B_QG_readColumn_116 s0 m = some r) : x_W G M_QG_readColumn (x_rd 3) (x_Q G (x_rd 3) ex (x_pi r)) ex x_np (x_hp m) 0 0 [] [.int s0] 116 := by
  unfold B_QG_readColumn_116 at h
  cases h
  exact x_ri d_QG_readColumn_116 rfl rfl
def F_QG_readColumn  (a1 : Int32) (m : x_m) : Option (Int32 × x_m) := ((F_NM_read 0 (m.1 4 2) m).bind fun r16 => (if r16.1 = ((-1)) then some ((-1), r16.2) else (if a1 = 0 then ((F_LX_next (x_N + 9) r16.2).bind fun r50 => (if r50.1 = 0 then some ((-1), r50.2) else ((F_LX_advance r50.2).bind fun r62 => ((F_CT_columnNumber r16.1 0 r62).bind fun r69 => (if x_ix r16.1 8 = true then ((F_NM_read (8 + r69.1) (r69.2.1 (9 + 13 * r16.1.toNatClampNeg) 0) r69.2).bind fun r95 => (if r95.1 = ((-1)) then B_QG_readColumn_116 ((-1)) r95.2 else ((F_CT_columnNumber r16.1 r95.1 r95.2).bind fun r113 => B_QG_readColumn_116 r113.1 r113.2))) else none))))) else ((F_LX_tellHere 7 r16.2).bind fun r37 => some ((-1), r37.2)))))
theorem c_QG_readColumn {G : x_G} {ex : Bool} {r : Int32 × x_m}  {a1 : Int32} {m : x_m} (h : F_QG_readColumn a1 m = some r) : x_R G M_QG_readColumn (x_rd 3) ex [.ref 114, .int a1] x_np (x_hp m) (x_pi r) := by
  unfold F_QG_readColumn at h
  show x_W G M_QG_readColumn (x_rd 3) (x_Q G (x_rd 3) ex (x_pi r)) ex x_np (x_hp m) 0 0 [(0, .ref 114), (1, .int a1)] [] 0
  refine x_aload_n d_QG_readColumn_0 rfl rfl ?_
  refine x_gC d_QG_readColumn_1 (f_QG_35 rfl) sh_QG hp_QG rfl ?_
  refine x_iconst (v := 0) d_QG_readColumn_4 (by decide) ?_
  refine x_aload_n d_QG_readColumn_5 rfl rfl ?_
  refine x_gC d_QG_readColumn_6 (f_QG_25 rfl) sh_QG hp_QG rfl ?_
  refine x_gI d_QG_readColumn_9 (f_QG_139 rfl) sh_CT hp_CT rfl ?_
  refine x_aload_n d_QG_readColumn_12 rfl rfl ?_
  refine x_gC d_QG_readColumn_13 (f_QG_21 rfl) sh_QG hp_QG rfl ?_
  obtain ⟨r16, e16, h⟩ := x_bd h
  refine x_cVi (M2 := M_NM_read) (As := [.int 0, .int (m.1 4 2), .ref 3]) (st := []) d_QG_readColumn_16 w_473 k_NM_read (c_NM_read e16) rfl sh_NM hp_NM rfl ⟨Nat.le_of_ble_eq_true rfl, Nat.le_of_ble_eq_true rfl⟩ (Nat.le_of_ble_eq_true rfl) (Nat.le_of_ble_eq_true rfl) rfl ?_
  refine x_istore_n (lv2 := [(0, .ref 114), (1, .int a1), (2, .int r16.1)]) d_QG_readColumn_19 rfl (by decide) rfl ?_
  refine x_iload_n d_QG_readColumn_20 rfl rfl ?_
  refine x_iconst (v := (-1)) d_QG_readColumn_21 (by decide) ?_
  refine x_icmp_ne (tgt := 27) d_QG_readColumn_22 (by decide) (fun c_ => ?_) (fun c_ => ?_)
  · replace h := x_ie h c_
    refine x_iload_n d_QG_readColumn_27 rfl rfl ?_
    refine x_if_eq (tgt := 43) d_QG_readColumn_28 (by decide) (fun c_ => ?_) (fun c_ => ?_)
    · replace h := x_it h c_
      refine x_aload_n d_QG_readColumn_43 rfl rfl ?_
      refine x_gC d_QG_readColumn_44 (f_QG_21 rfl) sh_QG hp_QG rfl ?_
      refine x_gets (i := 9) d_QG_readColumn_47 (by decide) w_490 ?_
      obtain ⟨r50, e50, h⟩ := x_bd h
      refine x_cVi (M2 := M_LX_next) (As := [.ref (x_N + 9)]) (st := []) d_QG_readColumn_50 w_492 k_LX_next (c_LX_next e50) rfl sh_LX hp_LX rfl ⟨Nat.le_of_ble_eq_true rfl, Nat.le_of_ble_eq_true rfl⟩ (Nat.le_of_ble_eq_true rfl) (Nat.le_of_ble_eq_true rfl) rfl ?_
      refine x_if_ne (tgt := 58) d_QG_readColumn_53 (by decide) (fun c_ => ?_) (fun c_ => ?_)
      · replace h := x_ie h c_
        refine x_aload_n d_QG_readColumn_58 rfl rfl ?_
        refine x_gC d_QG_readColumn_59 (f_QG_21 rfl) sh_QG hp_QG rfl ?_
        obtain ⟨r62, e62, h⟩ := x_bd h
        refine x_cVv (M2 := M_LX_advance) (As := []) (st := []) d_QG_readColumn_62 w_451 k_LX_advance (c_LX_advance e62) rfl sh_LX hp_LX rfl ⟨Nat.le_of_ble_eq_true rfl, Nat.le_of_ble_eq_true rfl⟩ (Nat.le_of_ble_eq_true rfl) (Nat.le_of_ble_eq_true rfl) rfl ?_
        refine x_bipush (v := 8) d_QG_readColumn_65 (by decide) ?_
        refine x_iload_n d_QG_readColumn_67 rfl rfl ?_
        refine x_iconst (v := 0) d_QG_readColumn_68 (by decide) ?_
        obtain ⟨r69, e69, h⟩ := x_bd h
        refine x_cSi (M2 := M_CT_columnNumber) (As := [.int r16.1, .int 0]) (st := [.int 8]) d_QG_readColumn_69 w_501 k_CT_columnNumber (c_CT_columnNumber e69) rfl ⟨Nat.le_of_ble_eq_true rfl, Nat.le_of_ble_eq_true rfl⟩ (Nat.le_of_ble_eq_true rfl) (Nat.le_of_ble_eq_true rfl) rfl ?_
        refine x_iadd d_QG_readColumn_72 ?_
        refine x_istore_n (lv2 := [(0, .ref 114), (1, .int a1), (2, .int r16.1), (3, .int (8 + r69.1))]) d_QG_readColumn_73 rfl (by decide) rfl ?_
        refine x_aload_n d_QG_readColumn_74 rfl rfl ?_
        refine x_gC d_QG_readColumn_75 (f_QG_35 rfl) sh_QG hp_QG rfl ?_
        refine x_iload_n d_QG_readColumn_78 rfl rfl ?_
        refine x_aload_n d_QG_readColumn_79 rfl rfl ?_
        refine x_gC d_QG_readColumn_80 (f_QG_25 rfl) sh_QG hp_QG rfl ?_
        refine x_gC d_QG_readColumn_83 (f_QG_149 rfl) sh_CT hp_CT rfl ?_
        refine x_iload_n d_QG_readColumn_86 rfl rfl ?_
        obtain ⟨g_87, h⟩ := x_gd h
        refine x_lR (b := 9 + 13 * r16.1.toNatClampNeg) d_QG_readColumn_87 rfl sa_CT_dimensions ha_CT_dimensions g_87 (if_pos (x_ix_lt g_87)) ?_
        refine x_gI d_QG_readColumn_88 (f_QG_153 rfl) (sh_DM (x_DM_of (x_ix_lt g_87))) (hp_DM (x_DM_of (x_ix_lt g_87))) rfl ?_
        refine x_aload_n d_QG_readColumn_91 rfl rfl ?_
        refine x_gC d_QG_readColumn_92 (f_QG_21 rfl) sh_QG hp_QG rfl ?_
        obtain ⟨r95, e95, h⟩ := x_bd h
        refine x_cVi (M2 := M_NM_read) (As := [.int (8 + r69.1), .int (r69.2.1 (9 + 13 * r16.1.toNatClampNeg) 0), .ref 3]) (st := []) d_QG_readColumn_95 w_473 k_NM_read (c_NM_read e95) rfl sh_NM hp_NM rfl ⟨Nat.le_of_ble_eq_true rfl, Nat.le_of_ble_eq_true rfl⟩ (Nat.le_of_ble_eq_true rfl) (Nat.le_of_ble_eq_true rfl) rfl ?_
        refine x_istore (lv2 := [(0, .ref 114), (1, .int a1), (2, .int r16.1), (3, .int (8 + r69.1)), (4, .int r95.1)]) d_QG_readColumn_98 (by decide) rfl ?_
        refine x_iload d_QG_readColumn_100 rfl ?_
        refine x_iconst (v := (-1)) d_QG_readColumn_102 (by decide) ?_
        refine x_icmp_ne (tgt := 110) d_QG_readColumn_103 (by decide) (fun c_ => ?_) (fun c_ => ?_)
        · replace h := x_ie h c_
          refine x_iload_n d_QG_readColumn_110 rfl rfl ?_
          refine x_iload d_QG_readColumn_111 rfl ?_
          obtain ⟨r113, e113, h⟩ := x_bd h
          refine x_cSi (M2 := M_CT_columnNumber) (As := [.int r16.1, .int r95.1]) (st := []) d_QG_readColumn_113 w_501 k_CT_columnNumber (c_CT_columnNumber e113) rfl ⟨Nat.le_of_ble_eq_true rfl, Nat.le_of_ble_eq_true rfl⟩ (Nat.le_of_ble_eq_true rfl) (Nat.le_of_ble_eq_true rfl) rfl ?_
          refine x_sbk [] (lv2 := []) rfl ?_; exact b_QG_readColumn_116 h
        · replace h := x_it h c_
          refine x_iconst (v := (-1)) d_QG_readColumn_106 (by decide) ?_
          refine x_goto (tgt := 116) d_QG_readColumn_107 (by decide) ?_
          refine x_sbk [] (lv2 := []) rfl ?_; exact b_QG_readColumn_116 h
      · replace h := x_it h c_
        refine x_iconst (v := (-1)) d_QG_readColumn_56 (by decide) ?_
        cases h
        exact x_ri d_QG_readColumn_57 rfl rfl
    · replace h := x_ie h c_
      refine x_aload_n d_QG_readColumn_31 rfl rfl ?_
      refine x_gC d_QG_readColumn_32 (f_QG_21 rfl) sh_QG hp_QG rfl ?_
      refine x_bipush (v := 7) d_QG_readColumn_35 (by decide) ?_
      obtain ⟨r37, e37, h⟩ := x_bd h
      refine x_cVi (M2 := M_LX_tellHere) (As := [.int 7]) (st := []) d_QG_readColumn_37 w_434 k_LX_tellHere (c_LX_tellHere e37) rfl sh_LX hp_LX rfl ⟨Nat.le_of_ble_eq_true rfl, Nat.le_of_ble_eq_true rfl⟩ (Nat.le_of_ble_eq_true rfl) (Nat.le_of_ble_eq_true rfl) rfl ?_
      refine x_pop d_QG_readColumn_40 rfl ?_
      refine x_iconst (v := (-1)) d_QG_readColumn_41 (by decide) ?_
      cases h
      exact x_ri d_QG_readColumn_42 rfl rfl
  · replace h := x_it h c_
    refine x_iconst (v := (-1)) d_QG_readColumn_25 (by decide) ?_
    cases h
    exact x_ri d_QG_readColumn_26 rfl rfl
def B_QU_addColumn_29 (p : Nat)   (m : x_m) : Option (x_m) := some m
theorem b_QU_addColumn_29 {G : x_G} {ex : Bool} {r : x_m} {p : Nat} (hp : x_QB p)   {m : x_m} (h : B_QU_addColumn_29 p m = some r) : x_W G M_QU_addColumn (x_rd 0) (x_Q G (x_rd 0) ex (x_pv r)) ex x_np (x_hp m) 0 0 [] [] 29 := by
  unfold B_QU_addColumn_29 at h
  cases h
  exact x_rv d_QU_addColumn_29 rfl
def F_QU_addColumn (p : Nat) (a1 : Int32) (m : x_m) : Option (x_m) := (if 8 ≤ (m.1 p 4) then B_QU_addColumn_29 p m else (if x_ix (m.1 p 4) 8 = true then B_QU_addColumn_29 p (x_wS (x_wA m (p + 4) (m.1 p 4).toNatClampNeg a1) p 4 (((x_wA m (p + 4) (m.1 p 4).toNatClampNeg a1).1 p 4) + 1)) else none))
theorem c_QU_addColumn {G : x_G} {ex : Bool} {r : x_m} {p : Nat} (hp : x_QB p) {a1 : Int32} {m : x_m} (h : F_QU_addColumn p a1 m = some r) : x_R G M_QU_addColumn (x_rd 0) ex [.ref p, .int a1] x_np (x_hp m) (x_pv r) := by
  unfold F_QU_addColumn at h
  show x_W G M_QU_addColumn (x_rd 0) (x_Q G (x_rd 0) ex (x_pv r)) ex x_np (x_hp m) 0 0 [(0, .ref p), (1, .int a1)] [] 0
  refine x_aload_n d_QU_addColumn_0 rfl rfl ?_
  refine x_gI d_QU_addColumn_1 (f_QU_38 rfl) (sh_QU hp) (hp_QU hp) rfl ?_
  refine x_bipush (v := 8) d_QU_addColumn_4 (by decide) ?_
  refine x_icmp_ge (tgt := 29) d_QU_addColumn_6 (by decide) (fun c_ => ?_) (fun c_ => ?_)
  · replace h := x_it h c_
    refine x_sbk [] (lv2 := []) rfl ?_; exact b_QU_addColumn_29 hp h
  · replace h := x_ie h c_
    refine x_aload_n d_QU_addColumn_9 rfl rfl ?_
    refine x_gC d_QU_addColumn_10 (f_QU_21 rfl) (sh_QU hp) (hp_QU hp) rfl ?_
    refine x_aload_n d_QU_addColumn_13 rfl rfl ?_
    refine x_gI d_QU_addColumn_14 (f_QU_38 rfl) (sh_QU hp) (hp_QU hp) rfl ?_
    refine x_iload_n d_QU_addColumn_17 rfl rfl ?_
    obtain ⟨g_18, h⟩ := x_gd h
    refine x_sI d_QU_addColumn_18 rfl (sa_QU_columns hp) (ha_QU_columns hp) g_18 ?_
    refine x_aload_n d_QU_addColumn_19 rfl rfl ?_
    refine x_dup d_QU_addColumn_20 rfl ?_
    refine x_gI d_QU_addColumn_21 (f_QU_38 rfl) (sh_QU hp) (hp_QU hp) rfl ?_
    refine x_iconst (v := 1) d_QU_addColumn_24 (by decide) ?_
    refine x_iadd d_QU_addColumn_25 ?_
    refine x_pI d_QU_addColumn_26 (f_QU_38 rfl) tb_QU rfl (sh_QU hp) (hp_QU hp) rfl ⟨rfl, rfl⟩ ?_
    refine x_sbk [] (lv2 := []) rfl ?_; exact b_QU_addColumn_29 hp h
def B_QU_hasColumn_2 (p : Nat)  : Nat → Int32 → Int32 → x_m → Option (Int32 × x_m)
  | 0, _, _, _ => none
  | f_ + 1, l1, l2, m => (if (m.1 p 4) ≤ l2 then some (0, m) else (if x_ix l2 8 = true then (if (m.2.1 (p + 4) l2.toNatClampNeg) = l1 then some (1, m) else (B_QU_hasColumn_2 p f_) l1 (l2 + 1) m) else none))
theorem b_QU_hasColumn_2 {G : x_G} {ex : Bool} {r : Int32 × x_m} {p : Nat} (hp : x_QB p)  : ∀ (f_ : Nat) (l1 : Int32) (l2 : Int32) (m : x_m), B_QU_hasColumn_2 p f_ l1 l2 m = some r → x_W G M_QU_hasColumn (x_rd 0) (x_Q G (x_rd 0) ex (x_pi r)) ex x_np (x_hp m) 0 0 [(0, .ref p), (1, .int l1), (2, .int l2)] [] 2 := by
  intro f_
  induction f_ with
  | zero => intro l1 l2 m h; exact nomatch h
  | succ f_ ih =>
    intro l1 l2 m h
    rw [B_QU_hasColumn_2] at h
    have hK2 := ih
    refine x_iload_n d_QU_hasColumn_2 rfl rfl ?_
    refine x_aload_n d_QU_hasColumn_3 rfl rfl ?_
    refine x_gI d_QU_hasColumn_4 (f_QU_38 rfl) (sh_QU hp) (hp_QU hp) rfl ?_
    refine x_icmp_ge (tgt := 28) d_QU_hasColumn_7 (by decide) (fun c_ => ?_) (fun c_ => ?_)
    · replace h := x_it h c_
      refine x_iconst (v := 0) d_QU_hasColumn_28 (by decide) ?_
      cases h
      exact x_ri d_QU_hasColumn_29 rfl rfl
    · replace h := x_ie h c_
      refine x_aload_n d_QU_hasColumn_10 rfl rfl ?_
      refine x_gC d_QU_hasColumn_11 (f_QU_21 rfl) (sh_QU hp) (hp_QU hp) rfl ?_
      refine x_iload_n d_QU_hasColumn_14 rfl rfl ?_
      obtain ⟨g_15, h⟩ := x_gd h
      refine x_lI d_QU_hasColumn_15 rfl (sa_QU_columns hp) (ha_QU_columns hp) g_15 ?_
      refine x_iload_n d_QU_hasColumn_16 rfl rfl ?_
      refine x_icmp_ne (tgt := 22) d_QU_hasColumn_17 (by decide) (fun c_ => ?_) (fun c_ => ?_)
      · replace h := x_ie h c_
        refine x_iinc (v := l2 + 1) (lv2 := [(0, .ref p), (1, .int l1), (2, .int (l2 + 1))]) d_QU_hasColumn_22 rfl rfl (by decide) rfl ?_
        refine x_goto (tgt := 2) d_QU_hasColumn_25 (by decide) ?_
        exact hK2 _ _ _ h
      · replace h := x_it h c_
        refine x_iconst (v := 1) d_QU_hasColumn_20 (by decide) ?_
        cases h
        exact x_ri d_QU_hasColumn_21 rfl rfl
def F_QU_hasColumn (p : Nat) (a1 : Int32) (m : x_m) : Option (Int32 × x_m) := B_QU_hasColumn_2 p x_fu a1 0 m
theorem c_QU_hasColumn {G : x_G} {ex : Bool} {r : Int32 × x_m} {p : Nat} (hp : x_QB p) {a1 : Int32} {m : x_m} (h : F_QU_hasColumn p a1 m = some r) : x_R G M_QU_hasColumn (x_rd 0) ex [.ref p, .int a1] x_np (x_hp m) (x_pi r) := by
  unfold F_QU_hasColumn at h
  show x_W G M_QU_hasColumn (x_rd 0) (x_Q G (x_rd 0) ex (x_pi r)) ex x_np (x_hp m) 0 0 [(0, .ref p), (1, .int a1)] [] 0
  refine x_iconst (v := 0) d_QU_hasColumn_0 (by decide) ?_
  refine x_istore_n (lv2 := [(0, .ref p), (1, .int a1), (2, .int 0)]) d_QU_hasColumn_1 rfl (by decide) rfl ?_
  exact b_QU_hasColumn_2 hp _ _ _ _ h
def B_QG_readGroup_60  (K28 : Int32 → Int32 → x_m → Option (Int32 × x_m)) (l1 : Int32) (l2 : Int32) (l3 : Int32) (s0 : Int32) (m : x_m) : Option (Int32 × x_m) := ((F_QG_readColumn s0 m).bind fun r60 => (if r60.1 = ((-1)) then some (0, r60.2) else (if x_qb (r60.2.2.2.1 114 4) = true then ((F_QU_hasColumn (r60.2.2.2.1 114 4) r60.1 r60.2).bind fun r79 => (if r79.1 = 0 then (if x_qb (r79.2.2.2.1 114 4) = true then ((F_QU_addColumn (r79.2.2.2.1 114 4) r60.1 r79.2).bind fun r104 => (if l1 = 0 then some (l2, r104) else ((F_LX_advance r104).bind fun r117 => (if x_kv (r117.2.2.1 3 1) = true then (if (r117.2.2.1 3 1) = (x_N + 6) then some (l2, r117) else ((F_LX_at (x_N + 7) r117).bind fun r142 => (if r142.1 = 0 then some (0, r142.2) else ((F_LX_advance r142.2).bind fun r154 => K28 l1 (l2 + 1) r154)))) else none)))) else none) else ((F_LX_tell 10 l3 r79.2).bind fun r92 => some (0, r92.2)))) else none)))
theorem b_QG_readGroup_60 {G : x_G} {ex : Bool} {r : Int32 × x_m}  {K28 : Int32 → Int32 → x_m → Option (Int32 × x_m)} (hK28 : ∀ (l1 : Int32) (l2 : Int32) (m : x_m), K28 l1 l2 m = some r → x_W G M_QG_readGroup (x_rd 4) (x_Q G (x_rd 4) ex (x_pi r)) ex x_np (x_hp m) 0 0 [(0, .ref 114), (1, .int l1), (2, .int l2)] [] 28) {l1 : Int32} {l2 : Int32} {l3 : Int32} {s0 : Int32} {m : x_m} (h : B_QG_readGroup_60 K28 l1 l2 l3 s0 m = some r) : x_W G M_QG_readGroup (x_rd 4) (x_Q G (x_rd 4) ex (x_pi r)) ex x_np (x_hp m) 0 0 [(0, .ref 114), (1, .int l1), (2, .int l2), (3, .int l3)] [.int s0, .ref 114] 60 := by
  unfold B_QG_readGroup_60 at h
  obtain ⟨r60, e60, h⟩ := x_bd h
  refine x_cVi (M2 := M_QG_readColumn) (As := [.int s0]) (st := []) d_QG_readGroup_60 w_469 k_QG_readColumn (c_QG_readColumn e60) rfl sh_QG hp_QG rfl ⟨Nat.le_of_ble_eq_true rfl, Nat.le_of_ble_eq_true rfl⟩ (Nat.le_of_ble_eq_true rfl) (Nat.le_of_ble_eq_true rfl) rfl ?_
  refine x_istore (lv2 := [(0, .ref 114), (1, .int l1), (2, .int l2), (3, .int l3), (4, .int r60.1)]) d_QG_readGroup_63 (by decide) rfl ?_
  refine x_iload d_QG_readGroup_65 rfl ?_
  refine x_iconst (v := (-1)) d_QG_readGroup_67 (by decide) ?_
  refine x_icmp_ne (tgt := 73) d_QG_readGroup_68 (by decide) (fun c_ => ?_) (fun c_ => ?_)
  · replace h := x_ie h c_
    refine x_aload_n d_QG_readGroup_73 rfl rfl ?_
    refine x_gR d_QG_readGroup_74 (f_QG_18 rfl) sh_QG hp_QG rfl ?_
    obtain ⟨g_74, h⟩ := x_gd h
    refine x_iload d_QG_readGroup_77 rfl ?_
    obtain ⟨r79, e79, h⟩ := x_bd h
    refine x_cVi (M2 := M_QU_hasColumn) (As := [.int r60.1]) (st := []) d_QG_readGroup_79 w_661 k_QU_hasColumn (c_QU_hasColumn (x_qb_ok g_74) e79) rfl (sh_QU (x_qb_ok g_74)) (hp_QU (x_qb_ok g_74)) rfl ⟨Nat.le_of_ble_eq_true rfl, Nat.le_of_ble_eq_true rfl⟩ (Nat.le_of_ble_eq_true rfl) (Nat.le_of_ble_eq_true rfl) rfl ?_
    refine x_if_eq (tgt := 98) d_QG_readGroup_82 (by decide) (fun c_ => ?_) (fun c_ => ?_)
    · replace h := x_it h c_
      refine x_aload_n d_QG_readGroup_98 rfl rfl ?_
      refine x_gR d_QG_readGroup_99 (f_QG_18 rfl) sh_QG hp_QG rfl ?_
      obtain ⟨g_99, h⟩ := x_gd h
      refine x_iload d_QG_readGroup_102 rfl ?_
      obtain ⟨r104, e104, h⟩ := x_bd h
      refine x_cVv (M2 := M_QU_addColumn) (As := [.int r60.1]) (st := []) d_QG_readGroup_104 w_666 k_QU_addColumn (c_QU_addColumn (x_qb_ok g_99) e104) rfl (sh_QU (x_qb_ok g_99)) (hp_QU (x_qb_ok g_99)) rfl ⟨Nat.le_of_ble_eq_true rfl, Nat.le_of_ble_eq_true rfl⟩ (Nat.le_of_ble_eq_true rfl) (Nat.le_of_ble_eq_true rfl) rfl ?_
      refine x_iload_n d_QG_readGroup_107 rfl rfl ?_
      refine x_if_ne (tgt := 113) d_QG_readGroup_108 (by decide) (fun c_ => ?_) (fun c_ => ?_)
      · replace h := x_ie h c_
        refine x_aload_n d_QG_readGroup_113 rfl rfl ?_
        refine x_gC d_QG_readGroup_114 (f_QG_21 rfl) sh_QG hp_QG rfl ?_
        obtain ⟨r117, e117, h⟩ := x_bd h
        refine x_cVv (M2 := M_LX_advance) (As := []) (st := []) d_QG_readGroup_117 w_451 k_LX_advance (c_LX_advance e117) rfl sh_LX hp_LX rfl ⟨Nat.le_of_ble_eq_true rfl, Nat.le_of_ble_eq_true rfl⟩ (Nat.le_of_ble_eq_true rfl) (Nat.le_of_ble_eq_true rfl) rfl ?_
        refine x_aload_n d_QG_readGroup_120 rfl rfl ?_
        refine x_gC d_QG_readGroup_121 (f_QG_21 rfl) sh_QG hp_QG rfl ?_
        refine x_gR d_QG_readGroup_124 (f_QG_53 rfl) sh_LX hp_LX rfl ?_
        refine x_gets (i := 6) d_QG_readGroup_127 (by decide) w_513 ?_
        obtain ⟨g_130_0, h⟩ := x_gd h
        refine x_kacmp_ne (tgt := 135) d_QG_readGroup_130 (by decide) g_130_0 (x_kvN 6 (by decide)) (fun c_ => ?_) (fun c_ => ?_)
        · replace h := x_ie h c_
          refine x_aload_n d_QG_readGroup_135 rfl rfl ?_
          refine x_gC d_QG_readGroup_136 (f_QG_21 rfl) sh_QG hp_QG rfl ?_
          refine x_gets (i := 7) d_QG_readGroup_139 (by decide) w_519 ?_
          obtain ⟨r142, e142, h⟩ := x_bd h
          refine x_cVi (M2 := M_LX_at) (As := [.ref (x_N + 7)]) (st := []) d_QG_readGroup_142 w_512 k_LX_at (c_LX_at e142) rfl sh_LX hp_LX rfl ⟨Nat.le_of_ble_eq_true rfl, Nat.le_of_ble_eq_true rfl⟩ (Nat.le_of_ble_eq_true rfl) (Nat.le_of_ble_eq_true rfl) rfl ?_
          refine x_if_ne (tgt := 150) d_QG_readGroup_145 (by decide) (fun c_ => ?_) (fun c_ => ?_)
          · replace h := x_ie h c_
            refine x_aload_n d_QG_readGroup_150 rfl rfl ?_
            refine x_gC d_QG_readGroup_151 (f_QG_21 rfl) sh_QG hp_QG rfl ?_
            obtain ⟨r154, e154, h⟩ := x_bd h
            refine x_cVv (M2 := M_LX_advance) (As := []) (st := []) d_QG_readGroup_154 w_451 k_LX_advance (c_LX_advance e154) rfl sh_LX hp_LX rfl ⟨Nat.le_of_ble_eq_true rfl, Nat.le_of_ble_eq_true rfl⟩ (Nat.le_of_ble_eq_true rfl) (Nat.le_of_ble_eq_true rfl) rfl ?_
            refine x_iinc (v := l2 + 1) (lv2 := [(0, .ref 114), (1, .int l1), (2, .int (l2 + 1)), (3, .int l3), (4, .int r60.1)]) d_QG_readGroup_157 rfl rfl (by decide) rfl ?_
            refine x_goto (tgt := 28) d_QG_readGroup_160 (by decide) ?_
            refine x_sbk [0, 1, 2] (lv2 := [(0, .ref 114), (1, .int l1), (2, .int (l2 + 1))]) rfl ?_; exact hK28 _ _ _ h
          · replace h := x_it h c_
            refine x_iconst (v := 0) d_QG_readGroup_148 (by decide) ?_
            cases h
            exact x_ri d_QG_readGroup_149 rfl rfl
        · replace h := x_it h c_
          refine x_iload_n d_QG_readGroup_133 rfl rfl ?_
          cases h
          exact x_ri d_QG_readGroup_134 rfl rfl
      · replace h := x_it h c_
        refine x_iload_n d_QG_readGroup_111 rfl rfl ?_
        cases h
        exact x_ri d_QG_readGroup_112 rfl rfl
    · replace h := x_ie h c_
      refine x_aload_n d_QG_readGroup_85 rfl rfl ?_
      refine x_gC d_QG_readGroup_86 (f_QG_21 rfl) sh_QG hp_QG rfl ?_
      refine x_bipush (v := 10) d_QG_readGroup_89 (by decide) ?_
      refine x_iload_n d_QG_readGroup_91 rfl rfl ?_
      obtain ⟨r92, e92, h⟩ := x_bd h
      refine x_cVi (M2 := M_LX_tell) (As := [.int 10, .int l3]) (st := []) d_QG_readGroup_92 w_665 k_LX_tell (c_LX_tell e92) rfl sh_LX hp_LX rfl ⟨Nat.le_of_ble_eq_true rfl, Nat.le_of_ble_eq_true rfl⟩ (Nat.le_of_ble_eq_true rfl) (Nat.le_of_ble_eq_true rfl) rfl ?_
      refine x_pop d_QG_readGroup_95 rfl ?_
      refine x_iconst (v := 0) d_QG_readGroup_96 (by decide) ?_
      cases h
      exact x_ri d_QG_readGroup_97 rfl rfl
  · replace h := x_it h c_
    refine x_iconst (v := 0) d_QG_readGroup_71 (by decide) ?_
    cases h
    exact x_ri d_QG_readGroup_72 rfl rfl
def B_QG_readGroup_28   : Nat → Int32 → Int32 → x_m → Option (Int32 × x_m)
  | 0, _, _, _ => none
  | f_ + 1, l1, l2, m => (if 9 < l2 then some (0, m) else (if x_qb (m.2.2.1 114 4) = true then (if (m.1 (m.2.2.1 114 4) 4) = 8 then B_QG_readGroup_60 (B_QG_readGroup_28 f_) l1 l2 (m.1 3 2) 1 m else B_QG_readGroup_60 (B_QG_readGroup_28 f_) l1 l2 (m.1 3 2) 0 m) else none))
theorem b_QG_readGroup_28 {G : x_G} {ex : Bool} {r : Int32 × x_m}   : ∀ (f_ : Nat) (l1 : Int32) (l2 : Int32) (m : x_m), B_QG_readGroup_28 f_ l1 l2 m = some r → x_W G M_QG_readGroup (x_rd 4) (x_Q G (x_rd 4) ex (x_pi r)) ex x_np (x_hp m) 0 0 [(0, .ref 114), (1, .int l1), (2, .int l2)] [] 28 := by
  intro f_
  induction f_ with
  | zero => intro l1 l2 m h; exact nomatch h
  | succ f_ ih =>
    intro l1 l2 m h
    rw [B_QG_readGroup_28] at h
    have hK28 := ih
    refine x_iload_n d_QG_readGroup_28 rfl rfl ?_
    refine x_bipush (v := 9) d_QG_readGroup_29 (by decide) ?_
    refine x_icmp_gt (tgt := 163) d_QG_readGroup_31 (by decide) (fun c_ => ?_) (fun c_ => ?_)
    · replace h := x_it h c_
      refine x_iconst (v := 0) d_QG_readGroup_163 (by decide) ?_
      cases h
      exact x_ri d_QG_readGroup_164 rfl rfl
    · replace h := x_ie h c_
      refine x_aload_n d_QG_readGroup_34 rfl rfl ?_
      refine x_gC d_QG_readGroup_35 (f_QG_21 rfl) sh_QG hp_QG rfl ?_
      refine x_gI d_QG_readGroup_38 (f_QG_95 rfl) sh_LX hp_LX rfl ?_
      refine x_istore_n (lv2 := [(0, .ref 114), (1, .int l1), (2, .int l2), (3, .int (m.1 3 2))]) d_QG_readGroup_41 rfl (by decide) rfl ?_
      refine x_aload_n d_QG_readGroup_42 rfl rfl ?_
      refine x_aload_n d_QG_readGroup_43 rfl rfl ?_
      refine x_gR d_QG_readGroup_44 (f_QG_18 rfl) sh_QG hp_QG rfl ?_
      obtain ⟨g_44, h⟩ := x_gd h
      refine x_gI d_QG_readGroup_47 (f_QG_275 rfl) (sh_QU (x_qb_ok g_44)) (hp_QU (x_qb_ok g_44)) rfl ?_
      refine x_bipush (v := 8) d_QG_readGroup_50 (by decide) ?_
      refine x_icmp_ne (tgt := 59) d_QG_readGroup_52 (by decide) (fun c_ => ?_) (fun c_ => ?_)
      · replace h := x_ie h c_
        refine x_iconst (v := 0) d_QG_readGroup_59 (by decide) ?_
        exact b_QG_readGroup_60 hK28 h
      · replace h := x_it h c_
        refine x_iconst (v := 1) d_QG_readGroup_55 (by decide) ?_
        refine x_goto (tgt := 60) d_QG_readGroup_56 (by decide) ?_
        exact b_QG_readGroup_60 hK28 h
def B_QG_readGroup_26   (l1 : Int32) (m : x_m) : Option (Int32 × x_m) := B_QG_readGroup_28 x_fu l1 1 m
theorem b_QG_readGroup_26 {G : x_G} {ex : Bool} {r : Int32 × x_m}   {l1 : Int32} {m : x_m} (h : B_QG_readGroup_26 l1 m = some r) : x_W G M_QG_readGroup (x_rd 4) (x_Q G (x_rd 4) ex (x_pi r)) ex x_np (x_hp m) 0 0 [(0, .ref 114), (1, .int l1)] [] 26 := by
  unfold B_QG_readGroup_26 at h
  refine x_iconst (v := 1) d_QG_readGroup_26 (by decide) ?_
  refine x_istore_n (lv2 := [(0, .ref 114), (1, .int l1), (2, .int 1)]) d_QG_readGroup_27 rfl (by decide) rfl ?_
  exact b_QG_readGroup_28 _ _ _ _ h
def F_QG_readGroup  (a1 : Int32) (m : x_m) : Option (Int32 × x_m) := (if a1 = 0 then B_QG_readGroup_26 a1 m else ((F_LX_next (x_N + 5) m).bind fun r11 => (if r11.1 = 0 then some (0, r11.2) else ((F_LX_advance r11.2).bind fun r23 => B_QG_readGroup_26 a1 r23))))
theorem c_QG_readGroup {G : x_G} {ex : Bool} {r : Int32 × x_m}  {a1 : Int32} {m : x_m} (h : F_QG_readGroup a1 m = some r) : x_R G M_QG_readGroup (x_rd 4) ex [.ref 114, .int a1] x_np (x_hp m) (x_pi r) := by
  unfold F_QG_readGroup at h
  show x_W G M_QG_readGroup (x_rd 4) (x_Q G (x_rd 4) ex (x_pi r)) ex x_np (x_hp m) 0 0 [(0, .ref 114), (1, .int a1)] [] 0
  refine x_iload_n d_QG_readGroup_0 rfl rfl ?_
  refine x_if_eq (tgt := 26) d_QG_readGroup_1 (by decide) (fun c_ => ?_) (fun c_ => ?_)
  · replace h := x_it h c_
    exact b_QG_readGroup_26 h
  · replace h := x_ie h c_
    refine x_aload_n d_QG_readGroup_4 rfl rfl ?_
    refine x_gC d_QG_readGroup_5 (f_QG_21 rfl) sh_QG hp_QG rfl ?_
    refine x_gets (i := 5) d_QG_readGroup_8 (by decide) w_504 ?_
    obtain ⟨r11, e11, h⟩ := x_bd h
    refine x_cVi (M2 := M_LX_next) (As := [.ref (x_N + 5)]) (st := []) d_QG_readGroup_11 w_492 k_LX_next (c_LX_next e11) rfl sh_LX hp_LX rfl ⟨Nat.le_of_ble_eq_true rfl, Nat.le_of_ble_eq_true rfl⟩ (Nat.le_of_ble_eq_true rfl) (Nat.le_of_ble_eq_true rfl) rfl ?_
    refine x_if_ne (tgt := 19) d_QG_readGroup_14 (by decide) (fun c_ => ?_) (fun c_ => ?_)
    · replace h := x_ie h c_
      refine x_aload_n d_QG_readGroup_19 rfl rfl ?_
      refine x_gC d_QG_readGroup_20 (f_QG_21 rfl) sh_QG hp_QG rfl ?_
      obtain ⟨r23, e23, h⟩ := x_bd h
      refine x_cVv (M2 := M_LX_advance) (As := []) (st := []) d_QG_readGroup_23 w_451 k_LX_advance (c_LX_advance e23) rfl sh_LX hp_LX rfl ⟨Nat.le_of_ble_eq_true rfl, Nat.le_of_ble_eq_true rfl⟩ (Nat.le_of_ble_eq_true rfl) (Nat.le_of_ble_eq_true rfl) rfl ?_
      exact b_QG_readGroup_26 h
    · replace h := x_it h c_
      refine x_iconst (v := 0) d_QG_readGroup_17 (by decide) ?_
      cases h
      exact x_ri d_QG_readGroup_18 rfl rfl
def B_QU_chosenColumns_22   (s0 : Int32) (m : x_m) : Option (Int32 × x_m) := some (s0, m)
theorem b_QU_chosenColumns_22 {G : x_G} {ex : Bool} {r : Int32 × x_m}   {s0 : Int32} {m : x_m} (h : B_QU_chosenColumns_22 s0 m = some r) : x_W G M_QU_chosenColumns (x_rd 0) (x_Q G (x_rd 0) ex (x_pi r)) ex x_np (x_hp m) 0 0 [] [.int s0] 22 := by
  unfold B_QU_chosenColumns_22 at h
  cases h
  exact x_ri d_QU_chosenColumns_22 rfl rfl
def F_QU_chosenColumns  (a0 : Nat) (a1 : Int32) (a2 : Int32) (m : x_m) : Option (Int32 × x_m) := (if x_kv a0 = true then (if a0 = (x_N + 24) then B_QU_chosenColumns_22 ((((1 : Int32) <<< (a1 &&& 31)) - 1) >>> (a2 &&& 31)) m else B_QU_chosenColumns_22 ((((1 : Int32) <<< (a1 &&& 31)) - 1) - a2) m) else none)
theorem c_QU_chosenColumns {G : x_G} {ex : Bool} {r : Int32 × x_m}  {a0 : Nat} {a1 : Int32} {a2 : Int32} {m : x_m} (h : F_QU_chosenColumns a0 a1 a2 m = some r) : x_R G M_QU_chosenColumns (x_rd 0) ex [.ref a0, .int a1, .int a2] x_np (x_hp m) (x_pi r) := by
  unfold F_QU_chosenColumns at h
  show x_W G M_QU_chosenColumns (x_rd 0) (x_Q G (x_rd 0) ex (x_pi r)) ex x_np (x_hp m) 0 0 [(0, .ref a0), (1, .int a1), (2, .int a2)] [] 0
  refine x_iconst (v := 1) d_QU_chosenColumns_0 (by decide) ?_
  refine x_iload_n d_QU_chosenColumns_1 rfl rfl ?_
  refine x_ishl d_QU_chosenColumns_2 ?_
  refine x_iconst (v := 1) d_QU_chosenColumns_3 (by decide) ?_
  refine x_isub d_QU_chosenColumns_4 ?_
  refine x_istore_n (lv2 := [(0, .ref a0), (1, .int a1), (2, .int a2), (3, .int (((1 : Int32) <<< (a1 &&& 31)) - 1))]) d_QU_chosenColumns_5 rfl (by decide) rfl ?_
  refine x_aload_n d_QU_chosenColumns_6 rfl rfl ?_
  refine x_gets (i := 24) d_QU_chosenColumns_7 (by decide) w_675 ?_
  obtain ⟨g_10_0, h⟩ := x_gd h
  refine x_kacmp_ne (tgt := 19) d_QU_chosenColumns_10 (by decide) g_10_0 (x_kvN 24 (by decide)) (fun c_ => ?_) (fun c_ => ?_)
  · replace h := x_ie h c_
    refine x_iload_n d_QU_chosenColumns_19 rfl rfl ?_
    refine x_iload_n d_QU_chosenColumns_20 rfl rfl ?_
    refine x_isub d_QU_chosenColumns_21 ?_
    refine x_sbk [] (lv2 := []) rfl ?_; exact b_QU_chosenColumns_22 h
  · replace h := x_it h c_
    refine x_iload_n d_QU_chosenColumns_13 rfl rfl ?_
    refine x_iload_n d_QU_chosenColumns_14 rfl rfl ?_
    refine x_ishr d_QU_chosenColumns_15 ?_
    refine x_goto (tgt := 22) d_QU_chosenColumns_16 (by decide) ?_
    refine x_sbk [] (lv2 := []) rfl ?_; exact b_QU_chosenColumns_22 h
def B_QU_addGroup_82 (p : Nat) (K62 : Nat → Int32 → Int32 → Int32 → Int32 → x_m → Option (Int32 × x_m)) : Nat → Nat → Int32 → Int32 → Int32 → Int32 → Int32 → Int32 → x_m → Option (Int32 × x_m)
  | 0, _, _, _, _, _, _, _, _ => none
  | f_ + 1, l1, l2, l3, l4, l5, l6, l7, m => (if (m.1 p 6) ≤ l7 then K62 l1 l2 l3 l4 (l5 + (-1)) m else (if x_ix l7 32 = true then (if x_ix ((l5 * (m.1 p 6)) + l7) 32 = true then (B_QU_addGroup_82 p K62 f_) l1 l2 l3 l4 l5 l6 (l7 + 1) (x_wA m (p + 5) ((l5 * (m.1 p 6)) + l7).toNatClampNeg ((m.2.1 (p + 5) l7.toNatClampNeg) ||| l6)) else none) else none))
theorem b_QU_addGroup_82 {G : x_G} {ex : Bool} {r : Int32 × x_m} {p : Nat} (hp : x_QB p) {K62 : Nat → Int32 → Int32 → Int32 → Int32 → x_m → Option (Int32 × x_m)} (hK62 : ∀ (l1 : Nat) (l2 : Int32) (l3 : Int32) (l4 : Int32) (l5 : Int32) (m : x_m), K62 l1 l2 l3 l4 l5 m = some r → x_W G M_QU_addGroup (x_rd 1) (x_Q G (x_rd 1) ex (x_pi r)) ex x_np (x_hp m) 0 0 [(0, .ref p), (1, .ref l1), (2, .int l2), (3, .int l3), (4, .int l4), (5, .int l5)] [] 62) : ∀ (f_ : Nat) (l1 : Nat) (l2 : Int32) (l3 : Int32) (l4 : Int32) (l5 : Int32) (l6 : Int32) (l7 : Int32) (m : x_m), B_QU_addGroup_82 p K62 f_ l1 l2 l3 l4 l5 l6 l7 m = some r → x_W G M_QU_addGroup (x_rd 1) (x_Q G (x_rd 1) ex (x_pi r)) ex x_np (x_hp m) 0 0 [(0, .ref p), (1, .ref l1), (2, .int l2), (3, .int l3), (4, .int l4), (5, .int l5), (6, .int l6), (7, .int l7)] [] 82 := by
  intro f_
  induction f_ with
  | zero => intro l1 l2 l3 l4 l5 l6 l7 m h; exact nomatch h
  | succ f_ ih =>
    intro l1 l2 l3 l4 l5 l6 l7 m h
    rw [B_QU_addGroup_82] at h
    have hK82 := ih
    refine x_iload d_QU_addGroup_82 rfl ?_
    refine x_aload_n d_QU_addGroup_84 rfl rfl ?_
    refine x_gI d_QU_addGroup_85 (f_QU_41 rfl) (sh_QU hp) (hp_QU hp) rfl ?_
    refine x_icmp_ge (tgt := 122) d_QU_addGroup_88 (by decide) (fun c_ => ?_) (fun c_ => ?_)
    · replace h := x_it h c_
      refine x_iinc (v := l5 + (-1)) (lv2 := [(0, .ref p), (1, .ref l1), (2, .int l2), (3, .int l3), (4, .int l4), (5, .int (l5 + (-1))), (6, .int l6), (7, .int l7)]) d_QU_addGroup_122 rfl rfl (by decide) rfl ?_
      refine x_goto (tgt := 62) d_QU_addGroup_125 (by decide) ?_
      refine x_sbk [0, 1, 2, 3, 4, 5] (lv2 := [(0, .ref p), (1, .ref l1), (2, .int l2), (3, .int l3), (4, .int l4), (5, .int (l5 + (-1)))]) rfl ?_; exact hK62 _ _ _ _ _ _ h
    · replace h := x_ie h c_
      refine x_aload_n d_QU_addGroup_91 rfl rfl ?_
      refine x_gC d_QU_addGroup_92 (f_QU_24 rfl) (sh_QU hp) (hp_QU hp) rfl ?_
      refine x_iload d_QU_addGroup_95 rfl ?_
      refine x_aload_n d_QU_addGroup_97 rfl rfl ?_
      refine x_gI d_QU_addGroup_98 (f_QU_41 rfl) (sh_QU hp) (hp_QU hp) rfl ?_
      refine x_imul d_QU_addGroup_101 ?_
      refine x_iload d_QU_addGroup_102 rfl ?_
      refine x_iadd d_QU_addGroup_104 ?_
      refine x_aload_n d_QU_addGroup_105 rfl rfl ?_
      refine x_gC d_QU_addGroup_106 (f_QU_24 rfl) (sh_QU hp) (hp_QU hp) rfl ?_
      refine x_iload d_QU_addGroup_109 rfl ?_
      obtain ⟨g_111, h⟩ := x_gd h
      refine x_lI d_QU_addGroup_111 rfl (sa_QU_sets hp) (ha_QU_sets hp) g_111 ?_
      refine x_iload d_QU_addGroup_112 rfl ?_
      refine x_ior d_QU_addGroup_114 ?_
      obtain ⟨g_115, h⟩ := x_gd h
      refine x_sI d_QU_addGroup_115 rfl (sa_QU_sets hp) (ha_QU_sets hp) g_115 ?_
      refine x_iinc (v := l7 + 1) (lv2 := [(0, .ref p), (1, .ref l1), (2, .int l2), (3, .int l3), (4, .int l4), (5, .int l5), (6, .int l6), (7, .int (l7 + 1))]) d_QU_addGroup_116 rfl rfl (by decide) rfl ?_
      refine x_goto (tgt := 82) d_QU_addGroup_119 (by decide) ?_
      exact hK82 _ _ _ _ _ _ _ _ h
def B_QU_addGroup_62 (p : Nat)  : Nat → Nat → Int32 → Int32 → Int32 → Int32 → x_m → Option (Int32 × x_m)
  | 0, _, _, _, _, _, _ => none
  | f_ + 1, l1, l2, l3, l4, l5, m => (if l5 < 0 then some (1, x_wS m p 6 ((m.1 p 6) * l3)) else ((F_QU_chosenColumns l1 l2 l5 m).bind fun r71 => B_QU_addGroup_82 p (B_QU_addGroup_62 p f_) x_fu l1 l2 l3 l4 l5 (r71.1 <<< (l4 &&& 31)) 0 r71.2))
theorem b_QU_addGroup_62 {G : x_G} {ex : Bool} {r : Int32 × x_m} {p : Nat} (hp : x_QB p)  : ∀ (f_ : Nat) (l1 : Nat) (l2 : Int32) (l3 : Int32) (l4 : Int32) (l5 : Int32) (m : x_m), B_QU_addGroup_62 p f_ l1 l2 l3 l4 l5 m = some r → x_W G M_QU_addGroup (x_rd 1) (x_Q G (x_rd 1) ex (x_pi r)) ex x_np (x_hp m) 0 0 [(0, .ref p), (1, .ref l1), (2, .int l2), (3, .int l3), (4, .int l4), (5, .int l5)] [] 62 := by
  intro f_
  induction f_ with
  | zero => intro l1 l2 l3 l4 l5 m h; exact nomatch h
  | succ f_ ih =>
    intro l1 l2 l3 l4 l5 m h
    rw [B_QU_addGroup_62] at h
    have hK62 := ih
    refine x_iload d_QU_addGroup_62 rfl ?_
    refine x_if_lt (tgt := 128) d_QU_addGroup_64 (by decide) (fun c_ => ?_) (fun c_ => ?_)
    · replace h := x_it h c_
      refine x_aload_n d_QU_addGroup_128 rfl rfl ?_
      refine x_dup d_QU_addGroup_129 rfl ?_
      refine x_gI d_QU_addGroup_130 (f_QU_41 rfl) (sh_QU hp) (hp_QU hp) rfl ?_
      refine x_iload_n d_QU_addGroup_133 rfl rfl ?_
      refine x_imul d_QU_addGroup_134 ?_
      refine x_pI d_QU_addGroup_135 (f_QU_41 rfl) tb_QU rfl (sh_QU hp) (hp_QU hp) rfl ⟨rfl, rfl⟩ ?_
      refine x_iconst (v := 1) d_QU_addGroup_138 (by decide) ?_
      cases h
      exact x_ri d_QU_addGroup_139 rfl rfl
    · replace h := x_ie h c_
      refine x_aload_n d_QU_addGroup_67 rfl rfl ?_
      refine x_iload_n d_QU_addGroup_68 rfl rfl ?_
      refine x_iload d_QU_addGroup_69 rfl ?_
      obtain ⟨r71, e71, h⟩ := x_bd h
      refine x_cSi (M2 := M_QU_chosenColumns) (As := [.ref l1, .int l2, .int l5]) (st := []) d_QU_addGroup_71 w_676 k_QU_chosenColumns (c_QU_chosenColumns e71) rfl ⟨Nat.le_of_ble_eq_true rfl, Nat.le_of_ble_eq_true rfl⟩ (Nat.le_of_ble_eq_true rfl) (Nat.le_of_ble_eq_true rfl) rfl ?_
      refine x_iload d_QU_addGroup_74 rfl ?_
      refine x_ishl d_QU_addGroup_76 ?_
      refine x_istore (lv2 := [(0, .ref p), (1, .ref l1), (2, .int l2), (3, .int l3), (4, .int l4), (5, .int l5), (6, .int (r71.1 <<< (l4 &&& 31)))]) d_QU_addGroup_77 (by decide) rfl ?_
      refine x_iconst (v := 0) d_QU_addGroup_79 (by decide) ?_
      refine x_istore (lv2 := [(0, .ref p), (1, .ref l1), (2, .int l2), (3, .int l3), (4, .int l4), (5, .int l5), (6, .int (r71.1 <<< (l4 &&& 31))), (7, .int 0)]) d_QU_addGroup_80 (by decide) rfl ?_
      exact b_QU_addGroup_82 hp hK62 _ _ _ _ _ _ _ _ _ h
def B_QU_addGroup_47 (p : Nat)   (m : x_m) : Option (Int32 × x_m) := some (0, m)
theorem b_QU_addGroup_47 {G : x_G} {ex : Bool} {r : Int32 × x_m} {p : Nat} (hp : x_QB p)   {m : x_m} (h : B_QU_addGroup_47 p m = some r) : x_W G M_QU_addGroup (x_rd 1) (x_Q G (x_rd 1) ex (x_pi r)) ex x_np (x_hp m) 0 0 [] [] 47 := by
  unfold B_QU_addGroup_47 at h
  refine x_iconst (v := 0) d_QU_addGroup_47 (by decide) ?_
  cases h
  exact x_ri d_QU_addGroup_48 rfl rfl
def B_QU_addGroup_27 (p : Nat)  (l1 : Nat) (l2 : Int32) (s0 : Int32) (m : x_m) : Option (Int32 × x_m) := (if 32 < (s0 * (m.1 p 6)) then B_QU_addGroup_47 p m else (if l2 ≤ (m.1 p 4) then B_QU_addGroup_62 p x_fu l1 l2 s0 ((m.1 p 4) - l2) (s0 - 1) m else B_QU_addGroup_47 p m))
theorem b_QU_addGroup_27 {G : x_G} {ex : Bool} {r : Int32 × x_m} {p : Nat} (hp : x_QB p)  {l1 : Nat} {l2 : Int32} {s0 : Int32} {m : x_m} (h : B_QU_addGroup_27 p l1 l2 s0 m = some r) : x_W G M_QU_addGroup (x_rd 1) (x_Q G (x_rd 1) ex (x_pi r)) ex x_np (x_hp m) 0 0 [(0, .ref p), (1, .ref l1), (2, .int l2)] [.int s0] 27 := by
  unfold B_QU_addGroup_27 at h
  refine x_istore_n (lv2 := [(0, .ref p), (1, .ref l1), (2, .int l2), (3, .int s0)]) d_QU_addGroup_27 rfl (by decide) rfl ?_
  refine x_iload_n d_QU_addGroup_28 rfl rfl ?_
  refine x_aload_n d_QU_addGroup_29 rfl rfl ?_
  refine x_gI d_QU_addGroup_30 (f_QU_41 rfl) (sh_QU hp) (hp_QU hp) rfl ?_
  refine x_imul d_QU_addGroup_33 ?_
  refine x_bipush (v := 32) d_QU_addGroup_34 (by decide) ?_
  refine x_icmp_gt (tgt := 47) d_QU_addGroup_36 (by decide) (fun c_ => ?_) (fun c_ => ?_)
  · replace h := x_it h c_
    refine x_sbk [] (lv2 := []) rfl ?_; exact b_QU_addGroup_47 hp h
  · replace h := x_ie h c_
    refine x_iload_n d_QU_addGroup_39 rfl rfl ?_
    refine x_aload_n d_QU_addGroup_40 rfl rfl ?_
    refine x_gI d_QU_addGroup_41 (f_QU_38 rfl) (sh_QU hp) (hp_QU hp) rfl ?_
    refine x_icmp_le (tgt := 49) d_QU_addGroup_44 (by decide) (fun c_ => ?_) (fun c_ => ?_)
    · replace h := x_it h c_
      refine x_aload_n d_QU_addGroup_49 rfl rfl ?_
      refine x_gI d_QU_addGroup_50 (f_QU_38 rfl) (sh_QU hp) (hp_QU hp) rfl ?_
      refine x_iload_n d_QU_addGroup_53 rfl rfl ?_
      refine x_isub d_QU_addGroup_54 ?_
      refine x_istore (lv2 := [(0, .ref p), (1, .ref l1), (2, .int l2), (3, .int s0), (4, .int ((m.1 p 4) - l2))]) d_QU_addGroup_55 (by decide) rfl ?_
      refine x_iload_n d_QU_addGroup_57 rfl rfl ?_
      refine x_iconst (v := 1) d_QU_addGroup_58 (by decide) ?_
      refine x_isub d_QU_addGroup_59 ?_
      refine x_istore (lv2 := [(0, .ref p), (1, .ref l1), (2, .int l2), (3, .int s0), (4, .int ((m.1 p 4) - l2)), (5, .int (s0 - 1))]) d_QU_addGroup_60 (by decide) rfl ?_
      exact b_QU_addGroup_62 hp _ _ _ _ _ _ _ h
    · replace h := x_ie h c_
      refine x_sbk [] (lv2 := []) rfl ?_; exact b_QU_addGroup_47 hp h
def F_QU_addGroup (p : Nat) (a1 : Nat) (a2 : Int32) (m : x_m) : Option (Int32 × x_m) := (if x_kv a1 = true then (if a1 = (x_N + 25) then B_QU_addGroup_27 p a1 a2 ((1 : Int32) <<< (a2 &&& 31)) m else (if x_kv a1 = true then (if a1 = (x_N + 24) then B_QU_addGroup_27 p a1 a2 (a2 + 1) m else B_QU_addGroup_27 p a1 a2 1 m) else none)) else none)
theorem c_QU_addGroup {G : x_G} {ex : Bool} {r : Int32 × x_m} {p : Nat} (hp : x_QB p) {a1 : Nat} {a2 : Int32} {m : x_m} (h : F_QU_addGroup p a1 a2 m = some r) : x_R G M_QU_addGroup (x_rd 1) ex [.ref p, .ref a1, .int a2] x_np (x_hp m) (x_pi r) := by
  unfold F_QU_addGroup at h
  show x_W G M_QU_addGroup (x_rd 1) (x_Q G (x_rd 1) ex (x_pi r)) ex x_np (x_hp m) 0 0 [(0, .ref p), (1, .ref a1), (2, .int a2)] [] 0
  refine x_aload_n d_QU_addGroup_0 rfl rfl ?_
  refine x_gets (i := 25) d_QU_addGroup_1 (by decide) w_674 ?_
  obtain ⟨g_4_0, h⟩ := x_gd h
  refine x_kacmp_ne (tgt := 13) d_QU_addGroup_4 (by decide) g_4_0 (x_kvN 25 (by decide)) (fun c_ => ?_) (fun c_ => ?_)
  · replace h := x_ie h c_
    refine x_aload_n d_QU_addGroup_13 rfl rfl ?_
    refine x_gets (i := 24) d_QU_addGroup_14 (by decide) w_675 ?_
    obtain ⟨g_17_0, h⟩ := x_gd h
    refine x_kacmp_ne (tgt := 26) d_QU_addGroup_17 (by decide) g_17_0 (x_kvN 24 (by decide)) (fun c_ => ?_) (fun c_ => ?_)
    · replace h := x_ie h c_
      refine x_iconst (v := 1) d_QU_addGroup_26 (by decide) ?_
      exact b_QU_addGroup_27 hp h
    · replace h := x_it h c_
      refine x_iload_n d_QU_addGroup_20 rfl rfl ?_
      refine x_iconst (v := 1) d_QU_addGroup_21 (by decide) ?_
      refine x_iadd d_QU_addGroup_22 ?_
      refine x_goto (tgt := 27) d_QU_addGroup_23 (by decide) ?_
      exact b_QU_addGroup_27 hp h
  · replace h := x_it h c_
    refine x_iconst (v := 1) d_QU_addGroup_7 (by decide) ?_
    refine x_iload_n d_QU_addGroup_8 rfl rfl ?_
    refine x_ishl d_QU_addGroup_9 ?_
    refine x_goto (tgt := 27) d_QU_addGroup_10 (by decide) ?_
    exact b_QU_addGroup_27 hp h
def B_QG_readGroups_66  (K25 : Int32 → Int32 → x_m → Option (Int32 × x_m)) (l1 : Int32) (l2 : Int32) (l3 : Nat) (s0 : Int32) (m : x_m) : Option (Int32 × x_m) := ((F_QG_readGroup s0 m).bind fun r66 => (if r66.1 = 0 then some (0, r66.2) else (if x_qb (r66.2.2.2.1 114 4) = true then ((F_QU_addGroup (r66.2.2.2.1 114 4) l3 r66.1 r66.2).bind fun r85 => (if r85.1 = 0 then ((F_LX_tell 7 l1 r85.2).bind fun r98 => (if x_b1 r98.1 = true then some (r98.1, r98.2) else none)) else ((F_LX_advance r85.2).bind fun r106 => (if x_kv (r106.2.2.1 3 1) = true then (if (r106.2.2.1 3 1) = (x_N + 7) then K25 l1 (l2 + 1) r106 else some (1, r106)) else none)))) else none)))
theorem b_QG_readGroups_66 {G : x_G} {ex : Bool} {r : Int32 × x_m}  {K25 : Int32 → Int32 → x_m → Option (Int32 × x_m)} (hK25 : ∀ (l1 : Int32) (l2 : Int32) (m : x_m), K25 l1 l2 m = some r → x_W G M_QG_readGroups (x_rd 5) (x_Q G (x_rd 5) ex (x_pi r)) ex x_np (x_hp m) 0 0 [(0, .ref 114), (1, .int l1), (2, .int l2)] [] 25) {l1 : Int32} {l2 : Int32} {l3 : Nat} {s0 : Int32} {m : x_m} (h : B_QG_readGroups_66 K25 l1 l2 l3 s0 m = some r) : x_W G M_QG_readGroups (x_rd 5) (x_Q G (x_rd 5) ex (x_pi r)) ex x_np (x_hp m) 0 0 [(0, .ref 114), (1, .int l1), (2, .int l2), (3, .ref l3)] [.int s0, .ref 114] 66 := by
  unfold B_QG_readGroups_66 at h
  obtain ⟨r66, e66, h⟩ := x_bd h
  refine x_cVi (M2 := M_QG_readGroup) (As := [.int s0]) (st := []) d_QG_readGroups_66 w_657 k_QG_readGroup (c_QG_readGroup e66) rfl sh_QG hp_QG rfl ⟨Nat.le_of_ble_eq_true rfl, Nat.le_of_ble_eq_true rfl⟩ (Nat.le_of_ble_eq_true rfl) (Nat.le_of_ble_eq_true rfl) rfl ?_
  refine x_istore (lv2 := [(0, .ref 114), (1, .int l1), (2, .int l2), (3, .ref l3), (4, .int r66.1)]) d_QG_readGroups_69 (by decide) rfl ?_
  refine x_iload d_QG_readGroups_71 rfl ?_
  refine x_if_ne (tgt := 78) d_QG_readGroups_73 (by decide) (fun c_ => ?_) (fun c_ => ?_)
  · replace h := x_ie h c_
    refine x_aload_n d_QG_readGroups_78 rfl rfl ?_
    refine x_gR d_QG_readGroups_79 (f_QG_18 rfl) sh_QG hp_QG rfl ?_
    obtain ⟨g_79, h⟩ := x_gd h
    refine x_aload_n d_QG_readGroups_82 rfl rfl ?_
    refine x_iload d_QG_readGroups_83 rfl ?_
    obtain ⟨r85, e85, h⟩ := x_bd h
    refine x_cVi (M2 := M_QU_addGroup) (As := [.ref l3, .int r66.1]) (st := []) d_QG_readGroups_85 w_670 k_QU_addGroup (c_QU_addGroup (x_qb_ok g_79) e85) rfl (sh_QU (x_qb_ok g_79)) (hp_QU (x_qb_ok g_79)) rfl ⟨Nat.le_of_ble_eq_true rfl, Nat.le_of_ble_eq_true rfl⟩ (Nat.le_of_ble_eq_true rfl) (Nat.le_of_ble_eq_true rfl) rfl ?_
    refine x_if_ne (tgt := 102) d_QG_readGroups_88 (by decide) (fun c_ => ?_) (fun c_ => ?_)
    · replace h := x_ie h c_
      refine x_aload_n d_QG_readGroups_102 rfl rfl ?_
      refine x_gC d_QG_readGroups_103 (f_QG_21 rfl) sh_QG hp_QG rfl ?_
      obtain ⟨r106, e106, h⟩ := x_bd h
      refine x_cVv (M2 := M_LX_advance) (As := []) (st := []) d_QG_readGroups_106 w_451 k_LX_advance (c_LX_advance e106) rfl sh_LX hp_LX rfl ⟨Nat.le_of_ble_eq_true rfl, Nat.le_of_ble_eq_true rfl⟩ (Nat.le_of_ble_eq_true rfl) (Nat.le_of_ble_eq_true rfl) rfl ?_
      refine x_aload_n d_QG_readGroups_109 rfl rfl ?_
      refine x_gC d_QG_readGroups_110 (f_QG_21 rfl) sh_QG hp_QG rfl ?_
      refine x_gR d_QG_readGroups_113 (f_QG_53 rfl) sh_LX hp_LX rfl ?_
      refine x_gets (i := 7) d_QG_readGroups_116 (by decide) w_519 ?_
      obtain ⟨g_119_0, h⟩ := x_gd h
      refine x_kacmp_eq (tgt := 124) d_QG_readGroups_119 (by decide) g_119_0 (x_kvN 7 (by decide)) (fun c_ => ?_) (fun c_ => ?_)
      · replace h := x_it h c_
        refine x_iinc (v := l2 + 1) (lv2 := [(0, .ref 114), (1, .int l1), (2, .int (l2 + 1)), (3, .ref l3), (4, .int r66.1)]) d_QG_readGroups_124 rfl rfl (by decide) rfl ?_
        refine x_goto (tgt := 25) d_QG_readGroups_127 (by decide) ?_
        refine x_sbk [0, 1, 2] (lv2 := [(0, .ref 114), (1, .int l1), (2, .int (l2 + 1))]) rfl ?_; exact hK25 _ _ _ h
      · replace h := x_ie h c_
        refine x_iconst (v := 1) d_QG_readGroups_122 (by decide) ?_
        cases h
        exact x_ri d_QG_readGroups_123 rfl rfl
    · replace h := x_it h c_
      refine x_aload_n d_QG_readGroups_91 rfl rfl ?_
      refine x_gC d_QG_readGroups_92 (f_QG_21 rfl) sh_QG hp_QG rfl ?_
      refine x_bipush (v := 7) d_QG_readGroups_95 (by decide) ?_
      refine x_iload_n d_QG_readGroups_97 rfl rfl ?_
      obtain ⟨r98, e98, h⟩ := x_bd h
      refine x_cVi (M2 := M_LX_tell) (As := [.int 7, .int l1]) (st := []) d_QG_readGroups_98 w_665 k_LX_tell (c_LX_tell e98) rfl sh_LX hp_LX rfl ⟨Nat.le_of_ble_eq_true rfl, Nat.le_of_ble_eq_true rfl⟩ (Nat.le_of_ble_eq_true rfl) (Nat.le_of_ble_eq_true rfl) rfl ?_
      obtain ⟨g_101, h⟩ := x_gd h
      cases h
      exact x_ri d_QG_readGroups_101 rfl (x_b1_ok g_101).1
  · replace h := x_it h c_
    refine x_iconst (v := 0) d_QG_readGroups_76 (by decide) ?_
    cases h
    exact x_ri d_QG_readGroups_77 rfl rfl
def B_QG_readGroups_61  (K25 : Int32 → Int32 → x_m → Option (Int32 × x_m)) (l1 : Int32) (l2 : Int32) (l3 : Nat) (m : x_m) : Option (Int32 × x_m) := B_QG_readGroups_66 K25 l1 l2 l3 1 m
theorem b_QG_readGroups_61 {G : x_G} {ex : Bool} {r : Int32 × x_m}  {K25 : Int32 → Int32 → x_m → Option (Int32 × x_m)} (hK25 : ∀ (l1 : Int32) (l2 : Int32) (m : x_m), K25 l1 l2 m = some r → x_W G M_QG_readGroups (x_rd 5) (x_Q G (x_rd 5) ex (x_pi r)) ex x_np (x_hp m) 0 0 [(0, .ref 114), (1, .int l1), (2, .int l2)] [] 25) {l1 : Int32} {l2 : Int32} {l3 : Nat} {m : x_m} (h : B_QG_readGroups_61 K25 l1 l2 l3 m = some r) : x_W G M_QG_readGroups (x_rd 5) (x_Q G (x_rd 5) ex (x_pi r)) ex x_np (x_hp m) 0 0 [(0, .ref 114), (1, .int l1), (2, .int l2), (3, .ref l3)] [.ref 114] 61 := by
  unfold B_QG_readGroups_61 at h
  refine x_iconst (v := 1) d_QG_readGroups_61 (by decide) ?_
  refine x_goto (tgt := 66) d_QG_readGroups_62 (by decide) ?_
  exact b_QG_readGroups_66 hK25 h
def B_QG_readGroups_25   : Nat → Int32 → Int32 → x_m → Option (Int32 × x_m)
  | 0, _, _, _ => none
  | f_ + 1, l1, l2, m => (if 8 < l2 then some (0, m) else ((F_LX_advance m).bind fun r35 => (if x_kv (r35.2.2.1 3 1) = true then (if (r35.2.2.1 3 1) = (x_N + 24) then B_QG_readGroups_61 (B_QG_readGroups_25 f_) l1 l2 (r35.2.2.1 3 1) r35 else (if x_kv (r35.2.2.1 3 1) = true then (if (r35.2.2.1 3 1) = (x_N + 25) then B_QG_readGroups_61 (B_QG_readGroups_25 f_) l1 l2 (r35.2.2.1 3 1) r35 else B_QG_readGroups_66 (B_QG_readGroups_25 f_) l1 l2 (r35.2.2.1 3 1) 0 r35) else none)) else none)))
theorem b_QG_readGroups_25 {G : x_G} {ex : Bool} {r : Int32 × x_m}   : ∀ (f_ : Nat) (l1 : Int32) (l2 : Int32) (m : x_m), B_QG_readGroups_25 f_ l1 l2 m = some r → x_W G M_QG_readGroups (x_rd 5) (x_Q G (x_rd 5) ex (x_pi r)) ex x_np (x_hp m) 0 0 [(0, .ref 114), (1, .int l1), (2, .int l2)] [] 25 := by
  intro f_
  induction f_ with
  | zero => intro l1 l2 m h; exact nomatch h
  | succ f_ ih =>
    intro l1 l2 m h
    rw [B_QG_readGroups_25] at h
    have hK25 := ih
    refine x_iload_n d_QG_readGroups_25 rfl rfl ?_
    refine x_bipush (v := 8) d_QG_readGroups_26 (by decide) ?_
    refine x_icmp_gt (tgt := 130) d_QG_readGroups_28 (by decide) (fun c_ => ?_) (fun c_ => ?_)
    · replace h := x_it h c_
      refine x_iconst (v := 0) d_QG_readGroups_130 (by decide) ?_
      cases h
      exact x_ri d_QG_readGroups_131 rfl rfl
    · replace h := x_ie h c_
      refine x_aload_n d_QG_readGroups_31 rfl rfl ?_
      refine x_gC d_QG_readGroups_32 (f_QG_21 rfl) sh_QG hp_QG rfl ?_
      obtain ⟨r35, e35, h⟩ := x_bd h
      refine x_cVv (M2 := M_LX_advance) (As := []) (st := []) d_QG_readGroups_35 w_451 k_LX_advance (c_LX_advance e35) rfl sh_LX hp_LX rfl ⟨Nat.le_of_ble_eq_true rfl, Nat.le_of_ble_eq_true rfl⟩ (Nat.le_of_ble_eq_true rfl) (Nat.le_of_ble_eq_true rfl) rfl ?_
      refine x_aload_n d_QG_readGroups_38 rfl rfl ?_
      refine x_gC d_QG_readGroups_39 (f_QG_21 rfl) sh_QG hp_QG rfl ?_
      refine x_gR d_QG_readGroups_42 (f_QG_53 rfl) sh_LX hp_LX rfl ?_
      refine x_astore_n (lv2 := [(0, .ref 114), (1, .int l1), (2, .int l2), (3, .ref (r35.2.2.1 3 1))]) d_QG_readGroups_45 rfl (by decide) rfl ?_
      refine x_aload_n d_QG_readGroups_46 rfl rfl ?_
      refine x_aload_n d_QG_readGroups_47 rfl rfl ?_
      refine x_gets (i := 24) d_QG_readGroups_48 (by decide) w_653 ?_
      obtain ⟨g_51_0, h⟩ := x_gd h
      refine x_kacmp_eq (tgt := 61) d_QG_readGroups_51 (by decide) g_51_0 (x_kvN 24 (by decide)) (fun c_ => ?_) (fun c_ => ?_)
      · replace h := x_it h c_
        exact b_QG_readGroups_61 hK25 h
      · replace h := x_ie h c_
        refine x_aload_n d_QG_readGroups_54 rfl rfl ?_
        refine x_gets (i := 25) d_QG_readGroups_55 (by decide) w_655 ?_
        obtain ⟨g_58_0, h⟩ := x_gd h
        refine x_kacmp_ne (tgt := 65) d_QG_readGroups_58 (by decide) g_58_0 (x_kvN 25 (by decide)) (fun c_ => ?_) (fun c_ => ?_)
        · replace h := x_ie h c_
          refine x_iconst (v := 0) d_QG_readGroups_65 (by decide) ?_
          exact b_QG_readGroups_66 hK25 h
        · replace h := x_it h c_
          exact b_QG_readGroups_61 hK25 h
def F_QG_readGroups   (m : x_m) : Option (Int32 × x_m) := ((F_LX_next (x_N + 23) m).bind fun r15 => (if r15.1 = 0 then some (0, r15.2) else B_QG_readGroups_25 x_fu (m.1 3 2) 0 r15.2))
theorem c_QG_readGroups {G : x_G} {ex : Bool} {r : Int32 × x_m}   {m : x_m} (h : F_QG_readGroups m = some r) : x_R G M_QG_readGroups (x_rd 5) ex [.ref 114] x_np (x_hp m) (x_pi r) := by
  unfold F_QG_readGroups at h
  show x_W G M_QG_readGroups (x_rd 5) (x_Q G (x_rd 5) ex (x_pi r)) ex x_np (x_hp m) 0 0 [(0, .ref 114)] [] 0
  refine x_aload_n d_QG_readGroups_0 rfl rfl ?_
  refine x_gC d_QG_readGroups_1 (f_QG_21 rfl) sh_QG hp_QG rfl ?_
  refine x_gI d_QG_readGroups_4 (f_QG_95 rfl) sh_LX hp_LX rfl ?_
  refine x_istore_n (lv2 := [(0, .ref 114), (1, .int (m.1 3 2))]) d_QG_readGroups_7 rfl (by decide) rfl ?_
  refine x_aload_n d_QG_readGroups_8 rfl rfl ?_
  refine x_gC d_QG_readGroups_9 (f_QG_21 rfl) sh_QG hp_QG rfl ?_
  refine x_gets (i := 23) d_QG_readGroups_12 (by decide) w_651 ?_
  obtain ⟨r15, e15, h⟩ := x_bd h
  refine x_cVi (M2 := M_LX_next) (As := [.ref (x_N + 23)]) (st := []) d_QG_readGroups_15 w_492 k_LX_next (c_LX_next e15) rfl sh_LX hp_LX rfl ⟨Nat.le_of_ble_eq_true rfl, Nat.le_of_ble_eq_true rfl⟩ (Nat.le_of_ble_eq_true rfl) (Nat.le_of_ble_eq_true rfl) rfl ?_
  refine x_if_ne (tgt := 23) d_QG_readGroups_18 (by decide) (fun c_ => ?_) (fun c_ => ?_)
  · replace h := x_ie h c_
    refine x_iconst (v := 0) d_QG_readGroups_23 (by decide) ?_
    refine x_istore_n (lv2 := [(0, .ref 114), (1, .int (m.1 3 2)), (2, .int 0)]) d_QG_readGroups_24 rfl (by decide) rfl ?_
    exact b_QG_readGroups_25 _ _ _ _ h
  · replace h := x_it h c_
    refine x_iconst (v := 0) d_QG_readGroups_21 (by decide) ?_
    cases h
    exact x_ri d_QG_readGroups_22 rfl rfl
def B_QG_itemType_48   (s0 : Int32) (m : x_m) : Option (Int32 × x_m) := some (s0, m)
theorem b_QG_itemType_48 {G : x_G} {ex : Bool} {r : Int32 × x_m}   {s0 : Int32} {m : x_m} (h : B_QG_itemType_48 s0 m = some r) : x_W G M_QG_itemType (x_rd 0) (x_Q G (x_rd 0) ex (x_pi r)) ex x_np (x_hp m) 0 0 [] [.int s0] 48 := by
  unfold B_QG_itemType_48 at h
  cases h
  exact x_ri d_QG_itemType_48 rfl rfl
def F_QG_itemType  (a0 : Nat) (m : x_m) : Option (Int32 × x_m) := (if x_kv a0 = true then (if a0 = (x_N + 27) then some (1, m) else (if x_kv a0 = true then (if a0 = (x_N + 29) then some (2, m) else (if x_kv a0 = true then (if a0 = (x_N + 30) then some (3, m) else (if x_kv a0 = true then (if a0 = (x_N + 28) then some (4, m) else (if x_kv a0 = true then (if a0 = (x_N + 26) then B_QG_itemType_48 5 m else B_QG_itemType_48 0 m) else none)) else none)) else none)) else none)) else none)
theorem c_QG_itemType {G : x_G} {ex : Bool} {r : Int32 × x_m}  {a0 : Nat} {m : x_m} (h : F_QG_itemType a0 m = some r) : x_R G M_QG_itemType (x_rd 0) ex [.ref a0] x_np (x_hp m) (x_pi r) := by
  unfold F_QG_itemType at h
  show x_W G M_QG_itemType (x_rd 0) (x_Q G (x_rd 0) ex (x_pi r)) ex x_np (x_hp m) 0 0 [(0, .ref a0)] [] 0
  refine x_aload_n d_QG_itemType_0 rfl rfl ?_
  refine x_gets (i := 27) d_QG_itemType_1 (by decide) w_459 ?_
  obtain ⟨g_4_0, h⟩ := x_gd h
  refine x_kacmp_ne (tgt := 9) d_QG_itemType_4 (by decide) g_4_0 (x_kvN 27 (by decide)) (fun c_ => ?_) (fun c_ => ?_)
  · replace h := x_ie h c_
    refine x_aload_n d_QG_itemType_9 rfl rfl ?_
    refine x_gets (i := 29) d_QG_itemType_10 (by decide) w_461 ?_
    obtain ⟨g_13_0, h⟩ := x_gd h
    refine x_kacmp_ne (tgt := 18) d_QG_itemType_13 (by decide) g_13_0 (x_kvN 29 (by decide)) (fun c_ => ?_) (fun c_ => ?_)
    · replace h := x_ie h c_
      refine x_aload_n d_QG_itemType_18 rfl rfl ?_
      refine x_gets (i := 30) d_QG_itemType_19 (by decide) w_463 ?_
      obtain ⟨g_22_0, h⟩ := x_gd h
      refine x_kacmp_ne (tgt := 27) d_QG_itemType_22 (by decide) g_22_0 (x_kvN 30 (by decide)) (fun c_ => ?_) (fun c_ => ?_)
      · replace h := x_ie h c_
        refine x_aload_n d_QG_itemType_27 rfl rfl ?_
        refine x_gets (i := 28) d_QG_itemType_28 (by decide) w_465 ?_
        obtain ⟨g_31_0, h⟩ := x_gd h
        refine x_kacmp_ne (tgt := 36) d_QG_itemType_31 (by decide) g_31_0 (x_kvN 28 (by decide)) (fun c_ => ?_) (fun c_ => ?_)
        · replace h := x_ie h c_
          refine x_aload_n d_QG_itemType_36 rfl rfl ?_
          refine x_gets (i := 26) d_QG_itemType_37 (by decide) w_467 ?_
          obtain ⟨g_40_0, h⟩ := x_gd h
          refine x_kacmp_ne (tgt := 47) d_QG_itemType_40 (by decide) g_40_0 (x_kvN 26 (by decide)) (fun c_ => ?_) (fun c_ => ?_)
          · replace h := x_ie h c_
            refine x_iconst (v := 0) d_QG_itemType_47 (by decide) ?_
            refine x_sbk [] (lv2 := []) rfl ?_; exact b_QG_itemType_48 h
          · replace h := x_it h c_
            refine x_iconst (v := 5) d_QG_itemType_43 (by decide) ?_
            refine x_goto (tgt := 48) d_QG_itemType_44 (by decide) ?_
            refine x_sbk [] (lv2 := []) rfl ?_; exact b_QG_itemType_48 h
        · replace h := x_it h c_
          refine x_iconst (v := 4) d_QG_itemType_34 (by decide) ?_
          cases h
          exact x_ri d_QG_itemType_35 rfl rfl
      · replace h := x_it h c_
        refine x_iconst (v := 3) d_QG_itemType_25 (by decide) ?_
        cases h
        exact x_ri d_QG_itemType_26 rfl rfl
    · replace h := x_it h c_
      refine x_iconst (v := 2) d_QG_itemType_16 (by decide) ?_
      cases h
      exact x_ri d_QG_itemType_17 rfl rfl
  · replace h := x_it h c_
    refine x_iconst (v := 1) d_QG_itemType_7 (by decide) ?_
    cases h
    exact x_ri d_QG_itemType_8 rfl rfl
def B_QG_readSummed_23   (s0 : Int32) (m : x_m) : Option (Int32 × x_m) := some (s0, m)
theorem b_QG_readSummed_23 {G : x_G} {ex : Bool} {r : Int32 × x_m}   {s0 : Int32} {m : x_m} (h : B_QG_readSummed_23 s0 m = some r) : x_W G M_QG_readSummed (x_rd 3) (x_Q G (x_rd 3) ex (x_pi r)) ex x_np (x_hp m) 0 0 [] [.int s0] 23 := by
  unfold B_QG_readSummed_23 at h
  cases h
  exact x_ri d_QG_readSummed_23 rfl rfl
def F_QG_readSummed  (a1 : Int32) (m : x_m) : Option (Int32 × x_m) := (if a1 = 4 then ((F_LX_at (x_N + 10) m).bind fun r12 => (if r12.1 = 0 then B_QG_readSummed_23 ((-1)) r12.2 else B_QG_readSummed_23 0 r12.2)) else ((F_NM_read 40 (m.1 4 3) m).bind fun r41 => some (r41.1, r41.2)))
theorem c_QG_readSummed {G : x_G} {ex : Bool} {r : Int32 × x_m}  {a1 : Int32} {m : x_m} (h : F_QG_readSummed a1 m = some r) : x_R G M_QG_readSummed (x_rd 3) ex [.ref 114, .int a1] x_np (x_hp m) (x_pi r) := by
  unfold F_QG_readSummed at h
  show x_W G M_QG_readSummed (x_rd 3) (x_Q G (x_rd 3) ex (x_pi r)) ex x_np (x_hp m) 0 0 [(0, .ref 114), (1, .int a1)] [] 0
  refine x_iload_n d_QG_readSummed_0 rfl rfl ?_
  refine x_iconst (v := 4) d_QG_readSummed_1 (by decide) ?_
  refine x_icmp_ne (tgt := 24) d_QG_readSummed_2 (by decide) (fun c_ => ?_) (fun c_ => ?_)
  · replace h := x_ie h c_
    refine x_aload_n d_QG_readSummed_24 rfl rfl ?_
    refine x_gC d_QG_readSummed_25 (f_QG_35 rfl) sh_QG hp_QG rfl ?_
    refine x_bipush (v := 40) d_QG_readSummed_28 (by decide) ?_
    refine x_aload_n d_QG_readSummed_30 rfl rfl ?_
    refine x_gC d_QG_readSummed_31 (f_QG_25 rfl) sh_QG hp_QG rfl ?_
    refine x_gI d_QG_readSummed_34 (f_QG_132 rfl) sh_CT hp_CT rfl ?_
    refine x_aload_n d_QG_readSummed_37 rfl rfl ?_
    refine x_gC d_QG_readSummed_38 (f_QG_21 rfl) sh_QG hp_QG rfl ?_
    obtain ⟨r41, e41, h⟩ := x_bd h
    refine x_cVi (M2 := M_NM_read) (As := [.int 40, .int (m.1 4 3), .ref 3]) (st := []) d_QG_readSummed_41 w_473 k_NM_read (c_NM_read e41) rfl sh_NM hp_NM rfl ⟨Nat.le_of_ble_eq_true rfl, Nat.le_of_ble_eq_true rfl⟩ (Nat.le_of_ble_eq_true rfl) (Nat.le_of_ble_eq_true rfl) rfl ?_
    cases h
    exact x_ri d_QG_readSummed_44 rfl rfl
  · replace h := x_it h c_
    refine x_aload_n d_QG_readSummed_5 rfl rfl ?_
    refine x_gC d_QG_readSummed_6 (f_QG_21 rfl) sh_QG hp_QG rfl ?_
    refine x_gets (i := 10) d_QG_readSummed_9 (by decide) w_510 ?_
    obtain ⟨r12, e12, h⟩ := x_bd h
    refine x_cVi (M2 := M_LX_at) (As := [.ref (x_N + 10)]) (st := []) d_QG_readSummed_12 w_512 k_LX_at (c_LX_at e12) rfl sh_LX hp_LX rfl ⟨Nat.le_of_ble_eq_true rfl, Nat.le_of_ble_eq_true rfl⟩ (Nat.le_of_ble_eq_true rfl) (Nat.le_of_ble_eq_true rfl) rfl ?_
    refine x_if_eq (tgt := 22) d_QG_readSummed_15 (by decide) (fun c_ => ?_) (fun c_ => ?_)
    · replace h := x_it h c_
      refine x_iconst (v := (-1)) d_QG_readSummed_22 (by decide) ?_
      refine x_sbk [] (lv2 := []) rfl ?_; exact b_QG_readSummed_23 h
    · replace h := x_ie h c_
      refine x_iconst (v := 0) d_QG_readSummed_18 (by decide) ?_
      refine x_goto (tgt := 23) d_QG_readSummed_19 (by decide) ?_
      refine x_sbk [] (lv2 := []) rfl ?_; exact b_QG_readSummed_23 h
def B_QU_addItem_49 (p : Nat)   (m : x_m) : Option (x_m) := some m
theorem b_QU_addItem_49 {G : x_G} {ex : Bool} {r : x_m} {p : Nat} (hp : x_QB p)   {m : x_m} (h : B_QU_addItem_49 p m = some r) : x_W G M_QU_addItem (x_rd 0) (x_Q G (x_rd 0) ex (x_pv r)) ex x_np (x_hp m) 0 0 [] [] 49 := by
  unfold B_QU_addItem_49 at h
  cases h
  exact x_rv d_QU_addItem_49 rfl
def F_QU_addItem (p : Nat) (a1 : Int32) (a2 : Int32) (a3 : Int32) (m : x_m) : Option (x_m) := (if 24 ≤ (m.1 p 0) then B_QU_addItem_49 p m else (if x_ix (m.1 p 0) 24 = true then (if x_ix ((x_wA m (p + 1) (m.1 p 0).toNatClampNeg a1).1 p 0) 24 = true then (if x_ix ((x_wA (x_wA m (p + 1) (m.1 p 0).toNatClampNeg a1) (p + 2) ((x_wA m (p + 1) (m.1 p 0).toNatClampNeg a1).1 p 0).toNatClampNeg a2).1 p 0) 24 = true then B_QU_addItem_49 p (x_wS (x_wA (x_wA (x_wA m (p + 1) (m.1 p 0).toNatClampNeg a1) (p + 2) ((x_wA m (p + 1) (m.1 p 0).toNatClampNeg a1).1 p 0).toNatClampNeg a2) (p + 3) ((x_wA (x_wA m (p + 1) (m.1 p 0).toNatClampNeg a1) (p + 2) ((x_wA m (p + 1) (m.1 p 0).toNatClampNeg a1).1 p 0).toNatClampNeg a2).1 p 0).toNatClampNeg a3) p 0 (((x_wA (x_wA (x_wA m (p + 1) (m.1 p 0).toNatClampNeg a1) (p + 2) ((x_wA m (p + 1) (m.1 p 0).toNatClampNeg a1).1 p 0).toNatClampNeg a2) (p + 3) ((x_wA (x_wA m (p + 1) (m.1 p 0).toNatClampNeg a1) (p + 2) ((x_wA m (p + 1) (m.1 p 0).toNatClampNeg a1).1 p 0).toNatClampNeg a2).1 p 0).toNatClampNeg a3).1 p 0) + 1)) else none) else none) else none))
theorem c_QU_addItem {G : x_G} {ex : Bool} {r : x_m} {p : Nat} (hp : x_QB p) {a1 : Int32} {a2 : Int32} {a3 : Int32} {m : x_m} (h : F_QU_addItem p a1 a2 a3 m = some r) : x_R G M_QU_addItem (x_rd 0) ex [.ref p, .int a1, .int a2, .int a3] x_np (x_hp m) (x_pv r) := by
  unfold F_QU_addItem at h
  show x_W G M_QU_addItem (x_rd 0) (x_Q G (x_rd 0) ex (x_pv r)) ex x_np (x_hp m) 0 0 [(0, .ref p), (1, .int a1), (2, .int a2), (3, .int a3)] [] 0
  refine x_aload_n d_QU_addItem_0 rfl rfl ?_
  refine x_gI d_QU_addItem_1 (f_QU_34 rfl) (sh_QU hp) (hp_QU hp) rfl ?_
  refine x_bipush (v := 24) d_QU_addItem_4 (by decide) ?_
  refine x_icmp_ge (tgt := 49) d_QU_addItem_6 (by decide) (fun c_ => ?_) (fun c_ => ?_)
  · replace h := x_it h c_
    refine x_sbk [] (lv2 := []) rfl ?_; exact b_QU_addItem_49 hp h
  · replace h := x_ie h c_
    refine x_aload_n d_QU_addItem_9 rfl rfl ?_
    refine x_gC d_QU_addItem_10 (f_QU_11 rfl) (sh_QU hp) (hp_QU hp) rfl ?_
    refine x_aload_n d_QU_addItem_13 rfl rfl ?_
    refine x_gI d_QU_addItem_14 (f_QU_34 rfl) (sh_QU hp) (hp_QU hp) rfl ?_
    refine x_iload_n d_QU_addItem_17 rfl rfl ?_
    obtain ⟨g_18, h⟩ := x_gd h
    refine x_sI d_QU_addItem_18 rfl (sa_QU_itemTypes hp) (ha_QU_itemTypes hp) g_18 ?_
    refine x_aload_n d_QU_addItem_19 rfl rfl ?_
    refine x_gC d_QU_addItem_20 (f_QU_15 rfl) (sh_QU hp) (hp_QU hp) rfl ?_
    refine x_aload_n d_QU_addItem_23 rfl rfl ?_
    refine x_gI d_QU_addItem_24 (f_QU_34 rfl) (sh_QU hp) (hp_QU hp) rfl ?_
    refine x_iload_n d_QU_addItem_27 rfl rfl ?_
    obtain ⟨g_28, h⟩ := x_gd h
    refine x_sI d_QU_addItem_28 rfl (sa_QU_itemTargets hp) (ha_QU_itemTargets hp) g_28 ?_
    refine x_aload_n d_QU_addItem_29 rfl rfl ?_
    refine x_gC d_QU_addItem_30 (f_QU_18 rfl) (sh_QU hp) (hp_QU hp) rfl ?_
    refine x_aload_n d_QU_addItem_33 rfl rfl ?_
    refine x_gI d_QU_addItem_34 (f_QU_34 rfl) (sh_QU hp) (hp_QU hp) rfl ?_
    refine x_iload_n d_QU_addItem_37 rfl rfl ?_
    obtain ⟨g_38, h⟩ := x_gd h
    refine x_sI d_QU_addItem_38 rfl (sa_QU_itemPlaces hp) (ha_QU_itemPlaces hp) g_38 ?_
    refine x_aload_n d_QU_addItem_39 rfl rfl ?_
    refine x_dup d_QU_addItem_40 rfl ?_
    refine x_gI d_QU_addItem_41 (f_QU_34 rfl) (sh_QU hp) (hp_QU hp) rfl ?_
    refine x_iconst (v := 1) d_QU_addItem_44 (by decide) ?_
    refine x_iadd d_QU_addItem_45 ?_
    refine x_pI d_QU_addItem_46 (f_QU_34 rfl) tb_QU rfl (sh_QU hp) (hp_QU hp) rfl ⟨rfl, rfl⟩ ?_
    refine x_sbk [] (lv2 := []) rfl ?_; exact b_QU_addItem_49 hp h
def B_QG_readItem_150   (s0 : Int32) (m : x_m) : Option (Int32 × x_m) := (if x_b1 s0 = true then some (s0, m) else none)
theorem b_QG_readItem_150 {G : x_G} {ex : Bool} {r : Int32 × x_m}   {s0 : Int32} {m : x_m} (h : B_QG_readItem_150 s0 m = some r) : x_W G M_QG_readItem (x_rd 4) (x_Q G (x_rd 4) ex (x_pi r)) ex x_np (x_hp m) 0 0 [] [.int s0] 150 := by
  unfold B_QG_readItem_150 at h
  obtain ⟨g_150, h⟩ := x_gd h
  cases h
  exact x_ri d_QG_readItem_150 rfl (x_b1_ok g_150).1
def B_QG_readItem_128   (l1 : Int32) (l2 : Int32) (l4 : Int32) (m : x_m) : Option (Int32 × x_m) := (if x_qb (m.2.2.1 114 4) = true then ((F_QU_addItem (m.2.2.1 114 4) l2 l4 l1 m).bind fun r136 => (if l4 = ((-1)) then B_QG_readItem_150 0 r136 else B_QG_readItem_150 1 r136)) else none)
theorem b_QG_readItem_128 {G : x_G} {ex : Bool} {r : Int32 × x_m}   {l1 : Int32} {l2 : Int32} {l4 : Int32} {m : x_m} (h : B_QG_readItem_128 l1 l2 l4 m = some r) : x_W G M_QG_readItem (x_rd 4) (x_Q G (x_rd 4) ex (x_pi r)) ex x_np (x_hp m) 0 0 [(0, .ref 114), (1, .int l1), (2, .int l2), (4, .int l4)] [] 128 := by
  unfold B_QG_readItem_128 at h
  refine x_aload_n d_QG_readItem_128 rfl rfl ?_
  refine x_gR d_QG_readItem_129 (f_QG_18 rfl) sh_QG hp_QG rfl ?_
  obtain ⟨g_129, h⟩ := x_gd h
  refine x_iload_n d_QG_readItem_132 rfl rfl ?_
  refine x_iload d_QG_readItem_133 rfl ?_
  refine x_iload_n d_QG_readItem_135 rfl rfl ?_
  obtain ⟨r136, e136, h⟩ := x_bd h
  refine x_cVv (M2 := M_QU_addItem) (As := [.int l2, .int l4, .int l1]) (st := []) d_QG_readItem_136 w_515 k_QU_addItem (c_QU_addItem (x_qb_ok g_129) e136) rfl (sh_QU (x_qb_ok g_129)) (hp_QU (x_qb_ok g_129)) rfl ⟨Nat.le_of_ble_eq_true rfl, Nat.le_of_ble_eq_true rfl⟩ (Nat.le_of_ble_eq_true rfl) (Nat.le_of_ble_eq_true rfl) rfl ?_
  refine x_iload d_QG_readItem_139 rfl ?_
  refine x_iconst (v := (-1)) d_QG_readItem_141 (by decide) ?_
  refine x_icmp_eq (tgt := 149) d_QG_readItem_142 (by decide) (fun c_ => ?_) (fun c_ => ?_)
  · replace h := x_it h c_
    refine x_iconst (v := 0) d_QG_readItem_149 (by decide) ?_
    refine x_sbk [] (lv2 := []) rfl ?_; exact b_QG_readItem_150 h
  · replace h := x_ie h c_
    refine x_iconst (v := 1) d_QG_readItem_145 (by decide) ?_
    refine x_goto (tgt := 150) d_QG_readItem_146 (by decide) ?_
    refine x_sbk [] (lv2 := []) rfl ?_; exact b_QG_readItem_150 h
def B_QG_readItem_126    (m : x_m) : Option (Int32 × x_m) := some (0, m)
theorem b_QG_readItem_126 {G : x_G} {ex : Bool} {r : Int32 × x_m}    {m : x_m} (h : B_QG_readItem_126 m = some r) : x_W G M_QG_readItem (x_rd 4) (x_Q G (x_rd 4) ex (x_pi r)) ex x_np (x_hp m) 0 0 [] [] 126 := by
  unfold B_QG_readItem_126 at h
  refine x_iconst (v := 0) d_QG_readItem_126 (by decide) ?_
  cases h
  exact x_ri d_QG_readItem_127 rfl rfl
def B_QG_readItem_105   (l1 : Int32) (l2 : Int32) (s0 : Int32) (m : x_m) : Option (Int32 × x_m) := (if s0 = ((-1)) then B_QG_readItem_126 m else ((F_LX_next (x_N + 6) m).bind fun r120 => (if r120.1 = 0 then B_QG_readItem_126 r120.2 else B_QG_readItem_128 l1 l2 s0 r120.2)))
theorem b_QG_readItem_105 {G : x_G} {ex : Bool} {r : Int32 × x_m}   {l1 : Int32} {l2 : Int32} {s0 : Int32} {m : x_m} (h : B_QG_readItem_105 l1 l2 s0 m = some r) : x_W G M_QG_readItem (x_rd 4) (x_Q G (x_rd 4) ex (x_pi r)) ex x_np (x_hp m) 0 0 [(0, .ref 114), (1, .int l1), (2, .int l2)] [.int s0] 105 := by
  unfold B_QG_readItem_105 at h
  refine x_istore (lv2 := [(0, .ref 114), (1, .int l1), (2, .int l2), (4, .int s0)]) d_QG_readItem_105 (by decide) rfl ?_
  refine x_iload d_QG_readItem_107 rfl ?_
  refine x_iconst (v := (-1)) d_QG_readItem_109 (by decide) ?_
  refine x_icmp_eq (tgt := 126) d_QG_readItem_110 (by decide) (fun c_ => ?_) (fun c_ => ?_)
  · replace h := x_it h c_
    refine x_sbk [] (lv2 := []) rfl ?_; exact b_QG_readItem_126 h
  · replace h := x_ie h c_
    refine x_aload_n d_QG_readItem_113 rfl rfl ?_
    refine x_gC d_QG_readItem_114 (f_QG_21 rfl) sh_QG hp_QG rfl ?_
    refine x_gets (i := 6) d_QG_readItem_117 (by decide) w_513 ?_
    obtain ⟨r120, e120, h⟩ := x_bd h
    refine x_cVi (M2 := M_LX_next) (As := [.ref (x_N + 6)]) (st := []) d_QG_readItem_120 w_492 k_LX_next (c_LX_next e120) rfl sh_LX hp_LX rfl ⟨Nat.le_of_ble_eq_true rfl, Nat.le_of_ble_eq_true rfl⟩ (Nat.le_of_ble_eq_true rfl) (Nat.le_of_ble_eq_true rfl) rfl ?_
    refine x_if_ne (tgt := 128) d_QG_readItem_123 (by decide) (fun c_ => ?_) (fun c_ => ?_)
    · replace h := x_ie h c_
      exact b_QG_readItem_128 h
    · replace h := x_it h c_
      refine x_sbk [] (lv2 := []) rfl ?_; exact b_QG_readItem_126 h
def B_QG_readItem_36   (l1 : Int32) (l2 : Int32) (s0 : Int32) (m : x_m) : Option (Int32 × x_m) := (if l2 = 0 then ((F_QG_readColumn s0 m).bind fun r43 => B_QG_readItem_128 l1 l2 r43.1 r43.2) else (if s0 = 0 then ((F_LX_next (x_N + 5) m).bind fun r72 => (if r72.1 = 0 then some (0, r72.2) else ((F_LX_advance r72.2).bind fun r84 => (if l2 = 5 then ((F_QG_readColumn 0 r84).bind fun r94 => B_QG_readItem_105 l1 l2 r94.1 r94.2) else ((F_QG_readSummed l2 r84).bind fun r102 => B_QG_readItem_105 l1 l2 r102.1 r102.2))))) else ((F_LX_tellHere 7 m).bind fun r61 => (if x_b1 r61.1 = true then some (r61.1, r61.2) else none))))
theorem b_QG_readItem_36 {G : x_G} {ex : Bool} {r : Int32 × x_m}   {l1 : Int32} {l2 : Int32} {s0 : Int32} {m : x_m} (h : B_QG_readItem_36 l1 l2 s0 m = some r) : x_W G M_QG_readItem (x_rd 4) (x_Q G (x_rd 4) ex (x_pi r)) ex x_np (x_hp m) 0 0 [(0, .ref 114), (1, .int l1), (2, .int l2)] [.int s0] 36 := by
  unfold B_QG_readItem_36 at h
  refine x_istore_n (lv2 := [(0, .ref 114), (1, .int l1), (2, .int l2), (3, .int s0)]) d_QG_readItem_36 rfl (by decide) rfl ?_
  refine x_iload_n d_QG_readItem_37 rfl rfl ?_
  refine x_if_ne (tgt := 51) d_QG_readItem_38 (by decide) (fun c_ => ?_) (fun c_ => ?_)
  · replace h := x_ie h c_
    refine x_iload_n d_QG_readItem_51 rfl rfl ?_
    refine x_if_eq (tgt := 65) d_QG_readItem_52 (by decide) (fun c_ => ?_) (fun c_ => ?_)
    · replace h := x_it h c_
      refine x_aload_n d_QG_readItem_65 rfl rfl ?_
      refine x_gC d_QG_readItem_66 (f_QG_21 rfl) sh_QG hp_QG rfl ?_
      refine x_gets (i := 5) d_QG_readItem_69 (by decide) w_504 ?_
      obtain ⟨r72, e72, h⟩ := x_bd h
      refine x_cVi (M2 := M_LX_next) (As := [.ref (x_N + 5)]) (st := []) d_QG_readItem_72 w_492 k_LX_next (c_LX_next e72) rfl sh_LX hp_LX rfl ⟨Nat.le_of_ble_eq_true rfl, Nat.le_of_ble_eq_true rfl⟩ (Nat.le_of_ble_eq_true rfl) (Nat.le_of_ble_eq_true rfl) rfl ?_
      refine x_if_ne (tgt := 80) d_QG_readItem_75 (by decide) (fun c_ => ?_) (fun c_ => ?_)
      · replace h := x_ie h c_
        refine x_aload_n d_QG_readItem_80 rfl rfl ?_
        refine x_gC d_QG_readItem_81 (f_QG_21 rfl) sh_QG hp_QG rfl ?_
        obtain ⟨r84, e84, h⟩ := x_bd h
        refine x_cVv (M2 := M_LX_advance) (As := []) (st := []) d_QG_readItem_84 w_451 k_LX_advance (c_LX_advance e84) rfl sh_LX hp_LX rfl ⟨Nat.le_of_ble_eq_true rfl, Nat.le_of_ble_eq_true rfl⟩ (Nat.le_of_ble_eq_true rfl) (Nat.le_of_ble_eq_true rfl) rfl ?_
        refine x_iload_n d_QG_readItem_87 rfl rfl ?_
        refine x_iconst (v := 5) d_QG_readItem_88 (by decide) ?_
        refine x_icmp_ne (tgt := 100) d_QG_readItem_89 (by decide) (fun c_ => ?_) (fun c_ => ?_)
        · replace h := x_ie h c_
          refine x_aload_n d_QG_readItem_100 rfl rfl ?_
          refine x_iload_n d_QG_readItem_101 rfl rfl ?_
          obtain ⟨r102, e102, h⟩ := x_bd h
          refine x_cVi (M2 := M_QG_readSummed) (As := [.int l2]) (st := []) d_QG_readItem_102 w_506 k_QG_readSummed (c_QG_readSummed e102) rfl sh_QG hp_QG rfl ⟨Nat.le_of_ble_eq_true rfl, Nat.le_of_ble_eq_true rfl⟩ (Nat.le_of_ble_eq_true rfl) (Nat.le_of_ble_eq_true rfl) rfl ?_
          refine x_sbk [0, 1, 2] (lv2 := [(0, .ref 114), (1, .int l1), (2, .int l2)]) rfl ?_; exact b_QG_readItem_105 h
        · replace h := x_it h c_
          refine x_aload_n d_QG_readItem_92 rfl rfl ?_
          refine x_iconst (v := 0) d_QG_readItem_93 (by decide) ?_
          obtain ⟨r94, e94, h⟩ := x_bd h
          refine x_cVi (M2 := M_QG_readColumn) (As := [.int 0]) (st := []) d_QG_readItem_94 w_469 k_QG_readColumn (c_QG_readColumn e94) rfl sh_QG hp_QG rfl ⟨Nat.le_of_ble_eq_true rfl, Nat.le_of_ble_eq_true rfl⟩ (Nat.le_of_ble_eq_true rfl) (Nat.le_of_ble_eq_true rfl) rfl ?_
          refine x_goto (tgt := 105) d_QG_readItem_97 (by decide) ?_
          refine x_sbk [0, 1, 2] (lv2 := [(0, .ref 114), (1, .int l1), (2, .int l2)]) rfl ?_; exact b_QG_readItem_105 h
      · replace h := x_it h c_
        refine x_iconst (v := 0) d_QG_readItem_78 (by decide) ?_
        cases h
        exact x_ri d_QG_readItem_79 rfl rfl
    · replace h := x_ie h c_
      refine x_aload_n d_QG_readItem_55 rfl rfl ?_
      refine x_gC d_QG_readItem_56 (f_QG_21 rfl) sh_QG hp_QG rfl ?_
      refine x_bipush (v := 7) d_QG_readItem_59 (by decide) ?_
      obtain ⟨r61, e61, h⟩ := x_bd h
      refine x_cVi (M2 := M_LX_tellHere) (As := [.int 7]) (st := []) d_QG_readItem_61 w_434 k_LX_tellHere (c_LX_tellHere e61) rfl sh_LX hp_LX rfl ⟨Nat.le_of_ble_eq_true rfl, Nat.le_of_ble_eq_true rfl⟩ (Nat.le_of_ble_eq_true rfl) (Nat.le_of_ble_eq_true rfl) rfl ?_
      obtain ⟨g_64, h⟩ := x_gd h
      cases h
      exact x_ri d_QG_readItem_64 rfl (x_b1_ok g_64).1
  · replace h := x_it h c_
    refine x_aload_n d_QG_readItem_41 rfl rfl ?_
    refine x_iload_n d_QG_readItem_42 rfl rfl ?_
    obtain ⟨r43, e43, h⟩ := x_bd h
    refine x_cVi (M2 := M_QG_readColumn) (As := [.int s0]) (st := []) d_QG_readItem_43 w_469 k_QG_readColumn (c_QG_readColumn e43) rfl sh_QG hp_QG rfl ⟨Nat.le_of_ble_eq_true rfl, Nat.le_of_ble_eq_true rfl⟩ (Nat.le_of_ble_eq_true rfl) (Nat.le_of_ble_eq_true rfl) rfl ?_
    refine x_istore (lv2 := [(0, .ref 114), (1, .int l1), (2, .int l2), (3, .int s0), (4, .int r43.1)]) d_QG_readItem_46 (by decide) rfl ?_
    refine x_goto (tgt := 128) d_QG_readItem_48 (by decide) ?_
    refine x_sbk [0, 1, 2, 4] (lv2 := [(0, .ref 114), (1, .int l1), (2, .int l2), (4, .int r43.1)]) rfl ?_; exact b_QG_readItem_128 h
def F_QG_readItem   (m : x_m) : Option (Int32 × x_m) := ((F_QG_itemType (m.2.2.1 3 1) m).bind fun r15 => (if x_qb (r15.2.2.2.1 114 4) = true then (if (r15.2.1 (r15.2.2.2.1 114 4) 0) = 24 then B_QG_readItem_36 (m.1 3 2) r15.1 1 r15.2 else B_QG_readItem_36 (m.1 3 2) r15.1 0 r15.2) else none))
theorem c_QG_readItem {G : x_G} {ex : Bool} {r : Int32 × x_m}   {m : x_m} (h : F_QG_readItem m = some r) : x_R G M_QG_readItem (x_rd 4) ex [.ref 114] x_np (x_hp m) (x_pi r) := by
  unfold F_QG_readItem at h
  show x_W G M_QG_readItem (x_rd 4) (x_Q G (x_rd 4) ex (x_pi r)) ex x_np (x_hp m) 0 0 [(0, .ref 114)] [] 0
  refine x_aload_n d_QG_readItem_0 rfl rfl ?_
  refine x_gC d_QG_readItem_1 (f_QG_21 rfl) sh_QG hp_QG rfl ?_
  refine x_gI d_QG_readItem_4 (f_QG_95 rfl) sh_LX hp_LX rfl ?_
  refine x_istore_n (lv2 := [(0, .ref 114), (1, .int (m.1 3 2))]) d_QG_readItem_7 rfl (by decide) rfl ?_
  refine x_aload_n d_QG_readItem_8 rfl rfl ?_
  refine x_gC d_QG_readItem_9 (f_QG_21 rfl) sh_QG hp_QG rfl ?_
  refine x_gR d_QG_readItem_12 (f_QG_53 rfl) sh_LX hp_LX rfl ?_
  obtain ⟨r15, e15, h⟩ := x_bd h
  refine x_cSi (M2 := M_QG_itemType) (As := [.ref (m.2.2.1 3 1)]) (st := []) d_QG_readItem_15 w_456 k_QG_itemType (c_QG_itemType e15) rfl ⟨Nat.le_of_ble_eq_true rfl, Nat.le_of_ble_eq_true rfl⟩ (Nat.le_of_ble_eq_true rfl) (Nat.le_of_ble_eq_true rfl) rfl ?_
  refine x_istore_n (lv2 := [(0, .ref 114), (1, .int (m.1 3 2)), (2, .int r15.1)]) d_QG_readItem_18 rfl (by decide) rfl ?_
  refine x_aload_n d_QG_readItem_19 rfl rfl ?_
  refine x_gR d_QG_readItem_20 (f_QG_18 rfl) sh_QG hp_QG rfl ?_
  obtain ⟨g_20, h⟩ := x_gd h
  refine x_gI d_QG_readItem_23 (f_QG_103 rfl) (sh_QU (x_qb_ok g_20)) (hp_QU (x_qb_ok g_20)) rfl ?_
  refine x_bipush (v := 24) d_QG_readItem_26 (by decide) ?_
  refine x_icmp_ne (tgt := 35) d_QG_readItem_28 (by decide) (fun c_ => ?_) (fun c_ => ?_)
  · replace h := x_ie h c_
    refine x_iconst (v := 0) d_QG_readItem_35 (by decide) ?_
    exact b_QG_readItem_36 h
  · replace h := x_it h c_
    refine x_iconst (v := 1) d_QG_readItem_31 (by decide) ?_
    refine x_goto (tgt := 36) d_QG_readItem_32 (by decide) ?_
    exact b_QG_readItem_36 h
def B_QG_readItems_2   : Nat → Int32 → x_m → Option (Int32 × x_m)
  | 0, _, _ => none
  | f_ + 1, l1, m => (if 24 < l1 then some (0, m) else ((F_LX_advance m).bind fun r12 => ((F_QG_readItem r12).bind fun r16 => (if r16.1 = 0 then some (0, r16.2) else ((F_LX_advance r16.2).bind fun r28 => (if x_kv (r28.2.2.1 3 1) = true then (if (r28.2.2.1 3 1) = (x_N + 7) then (B_QG_readItems_2 f_) (l1 + 1) r28 else some (1, r28)) else none))))))
theorem b_QG_readItems_2 {G : x_G} {ex : Bool} {r : Int32 × x_m}   : ∀ (f_ : Nat) (l1 : Int32) (m : x_m), B_QG_readItems_2 f_ l1 m = some r → x_W G M_QG_readItems (x_rd 5) (x_Q G (x_rd 5) ex (x_pi r)) ex x_np (x_hp m) 0 0 [(0, .ref 114), (1, .int l1)] [] 2 := by
  intro f_
  induction f_ with
  | zero => intro l1 m h; exact nomatch h
  | succ f_ ih =>
    intro l1 m h
    rw [B_QG_readItems_2] at h
    have hK2 := ih
    refine x_iload_n d_QG_readItems_2 rfl rfl ?_
    refine x_bipush (v := 24) d_QG_readItems_3 (by decide) ?_
    refine x_icmp_gt (tgt := 52) d_QG_readItems_5 (by decide) (fun c_ => ?_) (fun c_ => ?_)
    · replace h := x_it h c_
      refine x_iconst (v := 0) d_QG_readItems_52 (by decide) ?_
      cases h
      exact x_ri d_QG_readItems_53 rfl rfl
    · replace h := x_ie h c_
      refine x_aload_n d_QG_readItems_8 rfl rfl ?_
      refine x_gC d_QG_readItems_9 (f_QG_21 rfl) sh_QG hp_QG rfl ?_
      obtain ⟨r12, e12, h⟩ := x_bd h
      refine x_cVv (M2 := M_LX_advance) (As := []) (st := []) d_QG_readItems_12 w_451 k_LX_advance (c_LX_advance e12) rfl sh_LX hp_LX rfl ⟨Nat.le_of_ble_eq_true rfl, Nat.le_of_ble_eq_true rfl⟩ (Nat.le_of_ble_eq_true rfl) (Nat.le_of_ble_eq_true rfl) rfl ?_
      refine x_aload_n d_QG_readItems_15 rfl rfl ?_
      obtain ⟨r16, e16, h⟩ := x_bd h
      refine x_cVi (M2 := M_QG_readItem) (As := []) (st := []) d_QG_readItems_16 w_452 k_QG_readItem (c_QG_readItem e16) rfl sh_QG hp_QG rfl ⟨Nat.le_of_ble_eq_true rfl, Nat.le_of_ble_eq_true rfl⟩ (Nat.le_of_ble_eq_true rfl) (Nat.le_of_ble_eq_true rfl) rfl ?_
      refine x_if_ne (tgt := 24) d_QG_readItems_19 (by decide) (fun c_ => ?_) (fun c_ => ?_)
      · replace h := x_ie h c_
        refine x_aload_n d_QG_readItems_24 rfl rfl ?_
        refine x_gC d_QG_readItems_25 (f_QG_21 rfl) sh_QG hp_QG rfl ?_
        obtain ⟨r28, e28, h⟩ := x_bd h
        refine x_cVv (M2 := M_LX_advance) (As := []) (st := []) d_QG_readItems_28 w_451 k_LX_advance (c_LX_advance e28) rfl sh_LX hp_LX rfl ⟨Nat.le_of_ble_eq_true rfl, Nat.le_of_ble_eq_true rfl⟩ (Nat.le_of_ble_eq_true rfl) (Nat.le_of_ble_eq_true rfl) rfl ?_
        refine x_aload_n d_QG_readItems_31 rfl rfl ?_
        refine x_gC d_QG_readItems_32 (f_QG_21 rfl) sh_QG hp_QG rfl ?_
        refine x_gR d_QG_readItems_35 (f_QG_53 rfl) sh_LX hp_LX rfl ?_
        refine x_gets (i := 7) d_QG_readItems_38 (by decide) w_519 ?_
        obtain ⟨g_41_0, h⟩ := x_gd h
        refine x_kacmp_eq (tgt := 46) d_QG_readItems_41 (by decide) g_41_0 (x_kvN 7 (by decide)) (fun c_ => ?_) (fun c_ => ?_)
        · replace h := x_it h c_
          refine x_iinc (v := l1 + 1) (lv2 := [(0, .ref 114), (1, .int (l1 + 1))]) d_QG_readItems_46 rfl rfl (by decide) rfl ?_
          refine x_goto (tgt := 2) d_QG_readItems_49 (by decide) ?_
          exact hK2 _ _ h
        · replace h := x_ie h c_
          refine x_iconst (v := 1) d_QG_readItems_44 (by decide) ?_
          cases h
          exact x_ri d_QG_readItems_45 rfl rfl
      · replace h := x_it h c_
        refine x_iconst (v := 0) d_QG_readItems_22 (by decide) ?_
        cases h
        exact x_ri d_QG_readItems_23 rfl rfl
def F_QG_readItems   (m : x_m) : Option (Int32 × x_m) := B_QG_readItems_2 x_fu 0 m
theorem c_QG_readItems {G : x_G} {ex : Bool} {r : Int32 × x_m}   {m : x_m} (h : F_QG_readItems m = some r) : x_R G M_QG_readItems (x_rd 5) ex [.ref 114] x_np (x_hp m) (x_pi r) := by
  unfold F_QG_readItems at h
  show x_W G M_QG_readItems (x_rd 5) (x_Q G (x_rd 5) ex (x_pi r)) ex x_np (x_hp m) 0 0 [(0, .ref 114)] [] 0
  refine x_iconst (v := 0) d_QG_readItems_0 (by decide) ?_
  refine x_istore_n (lv2 := [(0, .ref 114), (1, .int 0)]) d_QG_readItems_1 rfl (by decide) rfl ?_
  exact b_QG_readItems_2 _ _ _ h
