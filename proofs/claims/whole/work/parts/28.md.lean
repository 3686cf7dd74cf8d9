def M_MD_say : x_M := (⟨"QuestionReaderModel", "say", "(I)V"⟩, prog_14_method_30_code, 2, none, [])
theorem d_MD_say_0 : decode M_MD_say.2.1 0 = .ok (.aload_n 0, 1) := by decide +kernel
theorem d_MD_say_1 : decode M_MD_say.2.1 1 = .ok (.getfield 67, 3) := by decide +kernel
theorem d_MD_say_4 : decode M_MD_say.2.1 4 = .ok (.ifCond .ne 32, 3) := by decide +kernel
theorem d_MD_say_7 : decode M_MD_say.2.1 7 = .ok (.aload_n 0, 1) := by decide +kernel
theorem d_MD_say_8 : decode M_MD_say.2.1 8 = .ok (.getfield 50, 3) := by decide +kernel
theorem d_MD_say_11 : decode M_MD_say.2.1 11 = .ok (.getfield 194, 3) := by decide +kernel
theorem d_MD_say_14 : decode M_MD_say.2.1 14 = .ok (.aload_n 0, 1) := by decide +kernel
theorem d_MD_say_15 : decode M_MD_say.2.1 15 = .ok (.getfield 50, 3) := by decide +kernel
theorem d_MD_say_18 : decode M_MD_say.2.1 18 = .ok (.getfield 196, 3) := by decide +kernel
theorem d_MD_say_21 : decode M_MD_say.2.1 21 = .ok (.iload_n 1, 1) := by decide +kernel
theorem d_MD_say_22 : decode M_MD_say.2.1 22 = .ok (.iastore, 1) := by decide +kernel
theorem d_MD_say_23 : decode M_MD_say.2.1 23 = .ok (.aload_n 0, 1) := by decide +kernel
theorem d_MD_say_24 : decode M_MD_say.2.1 24 = .ok (.getfield 50, 3) := by decide +kernel
theorem d_MD_say_27 : decode M_MD_say.2.1 27 = .ok (.dup, 1) := by decide +kernel
theorem d_MD_say_28 : decode M_MD_say.2.1 28 = .ok (.getfield 196, 3) := by decide +kernel
theorem d_MD_say_31 : decode M_MD_say.2.1 31 = .ok (.iconst 1, 1) := by decide +kernel
theorem d_MD_say_32 : decode M_MD_say.2.1 32 = .ok (.iadd, 1) := by decide +kernel
theorem d_MD_say_33 : decode M_MD_say.2.1 33 = .ok (.putfield 196, 3) := by decide +kernel
theorem d_MD_say_36 : decode M_MD_say.2.1 36 = .ok (.return_, 1) := by decide +kernel
theorem k_MD_say : x_kV M_MD_say "QuestionReaderModel" 1 := ⟨⟨by decide, Or.inl ⟨w_1422, rfl⟩⟩, w_1421, ws_67, ⟨by decide, by decide⟩, by decide +kernel⟩
def M_MD_columnsDimension : x_M := (⟨"QuestionReaderModel", "columnsDimension", "()I"⟩, prog_14_method_27_code, 2, some (.int), [])
theorem d_MD_columnsDimension_0 : decode M_MD_columnsDimension.2.1 0 = .ok (.aload_n 0, 1) := by decide +kernel
theorem d_MD_columnsDimension_1 : decode M_MD_columnsDimension.2.1 1 = .ok (.invokevirtual 146, 3) := by decide +kernel
theorem d_MD_columnsDimension_4 : decode M_MD_columnsDimension.2.1 4 = .ok (.ifCond .eq 15, 3) := by decide +kernel
theorem d_MD_columnsDimension_7 : decode M_MD_columnsDimension.2.1 7 = .ok (.aload_n 0, 1) := by decide +kernel
theorem d_MD_columnsDimension_8 : decode M_MD_columnsDimension.2.1 8 = .ok (.iconst 0, 1) := by decide +kernel
theorem d_MD_columnsDimension_9 : decode M_MD_columnsDimension.2.1 9 = .ok (.aload_n 0, 1) := by decide +kernel
theorem d_MD_columnsDimension_10 : decode M_MD_columnsDimension.2.1 10 = .ok (.getfield 150, 3) := by decide +kernel
theorem d_MD_columnsDimension_13 : decode M_MD_columnsDimension.2.1 13 = .ok (.invokevirtual 153, 3) := by decide +kernel
theorem d_MD_columnsDimension_16 : decode M_MD_columnsDimension.2.1 16 = .ok (.goto 4, 3) := by decide +kernel
theorem d_MD_columnsDimension_19 : decode M_MD_columnsDimension.2.1 19 = .ok (.iconst 0, 1) := by decide +kernel
theorem d_MD_columnsDimension_20 : decode M_MD_columnsDimension.2.1 20 = .ok (.istore_n 1, 1) := by decide +kernel
theorem d_MD_columnsDimension_21 : decode M_MD_columnsDimension.2.1 21 = .ok (.aload_n 0, 1) := by decide +kernel
theorem d_MD_columnsDimension_22 : decode M_MD_columnsDimension.2.1 22 = .ok (.iload_n 1, 1) := by decide +kernel
theorem d_MD_columnsDimension_23 : decode M_MD_columnsDimension.2.1 23 = .ok (.ifCond .lt 7, 3) := by decide +kernel
theorem d_MD_columnsDimension_26 : decode M_MD_columnsDimension.2.1 26 = .ok (.iconst 1, 1) := by decide +kernel
theorem d_MD_columnsDimension_27 : decode M_MD_columnsDimension.2.1 27 = .ok (.goto 4, 3) := by decide +kernel
theorem d_MD_columnsDimension_30 : decode M_MD_columnsDimension.2.1 30 = .ok (.iconst 0, 1) := by decide +kernel
theorem d_MD_columnsDimension_31 : decode M_MD_columnsDimension.2.1 31 = .ok (.iconst 5, 1) := by decide +kernel
theorem d_MD_columnsDimension_32 : decode M_MD_columnsDimension.2.1 32 = .ok (.aload_n 0, 1) := by decide +kernel
theorem d_MD_columnsDimension_33 : decode M_MD_columnsDimension.2.1 33 = .ok (.getfield 77, 3) := by decide +kernel
theorem d_MD_columnsDimension_36 : decode M_MD_columnsDimension.2.1 36 = .ok (.invokevirtual 117, 3) := by decide +kernel
theorem d_MD_columnsDimension_39 : decode M_MD_columnsDimension.2.1 39 = .ok (.ifCond .eq 7, 3) := by decide +kernel
theorem d_MD_columnsDimension_42 : decode M_MD_columnsDimension.2.1 42 = .ok (.iload_n 1, 1) := by decide +kernel
theorem d_MD_columnsDimension_43 : decode M_MD_columnsDimension.2.1 43 = .ok (.goto 4, 3) := by decide +kernel
theorem d_MD_columnsDimension_46 : decode M_MD_columnsDimension.2.1 46 = .ok (.iconst 0, 1) := by decide +kernel
theorem d_MD_columnsDimension_47 : decode M_MD_columnsDimension.2.1 47 = .ok (.ireturn, 1) := by decide +kernel
theorem k_MD_columnsDimension : x_kV M_MD_columnsDimension "QuestionReaderModel" 0 := ⟨⟨by decide, Or.inl ⟨w_1390, rfl⟩⟩, w_1389, ws_59, ⟨by decide, by decide⟩, by decide +kernel⟩
def M_MD_columnsLevel : x_M := (⟨"QuestionReaderModel", "columnsLevel", "(I)I"⟩, prog_14_method_28_code, 3, some (.int), [])
theorem d_MD_columnsLevel_0 : decode M_MD_columnsLevel.2.1 0 = .ok (.aload_n 0, 1) := by decide +kernel
theorem d_MD_columnsLevel_1 : decode M_MD_columnsLevel.2.1 1 = .ok (.bipush 46, 2) := by decide +kernel
theorem d_MD_columnsLevel_3 : decode M_MD_columnsLevel.2.1 3 = .ok (.invokevirtual 166, 3) := by decide +kernel
theorem d_MD_columnsLevel_6 : decode M_MD_columnsLevel.2.1 6 = .ok (.ifCond .ne 5, 3) := by decide +kernel
theorem d_MD_columnsLevel_9 : decode M_MD_columnsLevel.2.1 9 = .ok (.iconst 0, 1) := by decide +kernel
theorem d_MD_columnsLevel_10 : decode M_MD_columnsLevel.2.1 10 = .ok (.ireturn, 1) := by decide +kernel
theorem d_MD_columnsLevel_11 : decode M_MD_columnsLevel.2.1 11 = .ok (.aload_n 0, 1) := by decide +kernel
theorem d_MD_columnsLevel_12 : decode M_MD_columnsLevel.2.1 12 = .ok (.invokevirtual 133, 3) := by decide +kernel
theorem d_MD_columnsLevel_15 : decode M_MD_columnsLevel.2.1 15 = .ok (.aload_n 0, 1) := by decide +kernel
theorem d_MD_columnsLevel_16 : decode M_MD_columnsLevel.2.1 16 = .ok (.invokevirtual 146, 3) := by decide +kernel
theorem d_MD_columnsLevel_19 : decode M_MD_columnsLevel.2.1 19 = .ok (.ifCond .eq 22, 3) := by decide +kernel
theorem d_MD_columnsLevel_22 : decode M_MD_columnsLevel.2.1 22 = .ok (.aload_n 0, 1) := by decide +kernel
theorem d_MD_columnsLevel_23 : decode M_MD_columnsLevel.2.1 23 = .ok (.bipush 8, 2) := by decide +kernel
theorem d_MD_columnsLevel_25 : decode M_MD_columnsLevel.2.1 25 = .ok (.iconst 4, 1) := by decide +kernel
theorem d_MD_columnsLevel_26 : decode M_MD_columnsLevel.2.1 26 = .ok (.iload_n 1, 1) := by decide +kernel
theorem d_MD_columnsLevel_27 : decode M_MD_columnsLevel.2.1 27 = .ok (.imul, 1) := by decide +kernel
theorem d_MD_columnsLevel_28 : decode M_MD_columnsLevel.2.1 28 = .ok (.iadd, 1) := by decide +kernel
theorem d_MD_columnsLevel_29 : decode M_MD_columnsLevel.2.1 29 = .ok (.aload_n 0, 1) := by decide +kernel
theorem d_MD_columnsLevel_30 : decode M_MD_columnsLevel.2.1 30 = .ok (.getfield 24, 3) := by decide +kernel
theorem d_MD_columnsLevel_33 : decode M_MD_columnsLevel.2.1 33 = .ok (.iload_n 1, 1) := by decide +kernel
theorem d_MD_columnsLevel_34 : decode M_MD_columnsLevel.2.1 34 = .ok (.iaload, 1) := by decide +kernel
theorem d_MD_columnsLevel_35 : decode M_MD_columnsLevel.2.1 35 = .ok (.invokevirtual 153, 3) := by decide +kernel
theorem d_MD_columnsLevel_38 : decode M_MD_columnsLevel.2.1 38 = .ok (.goto 4, 3) := by decide +kernel
theorem d_MD_columnsLevel_41 : decode M_MD_columnsLevel.2.1 41 = .ok (.iconst 0, 1) := by decide +kernel
theorem d_MD_columnsLevel_42 : decode M_MD_columnsLevel.2.1 42 = .ok (.istore_n 2, 1) := by decide +kernel
theorem d_MD_columnsLevel_43 : decode M_MD_columnsLevel.2.1 43 = .ok (.aload_n 0, 1) := by decide +kernel
theorem d_MD_columnsLevel_44 : decode M_MD_columnsLevel.2.1 44 = .ok (.iload_n 2, 1) := by decide +kernel
theorem d_MD_columnsLevel_45 : decode M_MD_columnsLevel.2.1 45 = .ok (.ifCond .lt 7, 3) := by decide +kernel
theorem d_MD_columnsLevel_48 : decode M_MD_columnsLevel.2.1 48 = .ok (.iconst 1, 1) := by decide +kernel
theorem d_MD_columnsLevel_49 : decode M_MD_columnsLevel.2.1 49 = .ok (.goto 4, 3) := by decide +kernel
theorem d_MD_columnsLevel_52 : decode M_MD_columnsLevel.2.1 52 = .ok (.iconst 0, 1) := by decide +kernel
theorem d_MD_columnsLevel_53 : decode M_MD_columnsLevel.2.1 53 = .ok (.iconst 5, 1) := by decide +kernel
theorem d_MD_columnsLevel_54 : decode M_MD_columnsLevel.2.1 54 = .ok (.aload_n 0, 1) := by decide +kernel
theorem d_MD_columnsLevel_55 : decode M_MD_columnsLevel.2.1 55 = .ok (.getfield 77, 3) := by decide +kernel
theorem d_MD_columnsLevel_58 : decode M_MD_columnsLevel.2.1 58 = .ok (.invokevirtual 117, 3) := by decide +kernel
theorem d_MD_columnsLevel_61 : decode M_MD_columnsLevel.2.1 61 = .ok (.ifCond .eq 11, 3) := by decide +kernel
theorem d_MD_columnsLevel_64 : decode M_MD_columnsLevel.2.1 64 = .ok (.iconst 4, 1) := by decide +kernel
theorem d_MD_columnsLevel_65 : decode M_MD_columnsLevel.2.1 65 = .ok (.iload_n 1, 1) := by decide +kernel
theorem d_MD_columnsLevel_66 : decode M_MD_columnsLevel.2.1 66 = .ok (.imul, 1) := by decide +kernel
theorem d_MD_columnsLevel_67 : decode M_MD_columnsLevel.2.1 67 = .ok (.iload_n 2, 1) := by decide +kernel
theorem d_MD_columnsLevel_68 : decode M_MD_columnsLevel.2.1 68 = .ok (.iadd, 1) := by decide +kernel
theorem d_MD_columnsLevel_69 : decode M_MD_columnsLevel.2.1 69 = .ok (.goto 4, 3) := by decide +kernel
theorem d_MD_columnsLevel_72 : decode M_MD_columnsLevel.2.1 72 = .ok (.iconst 0, 1) := by decide +kernel
theorem d_MD_columnsLevel_73 : decode M_MD_columnsLevel.2.1 73 = .ok (.ireturn, 1) := by decide +kernel
theorem k_MD_columnsLevel : x_kV M_MD_columnsLevel "QuestionReaderModel" 1 := ⟨⟨by decide, Or.inl ⟨w_1394, rfl⟩⟩, w_1393, ws_60, ⟨by decide, by decide⟩, by decide +kernel⟩
def M_MD_needNumber : x_M := (⟨"QuestionReaderModel", "needNumber", "()I"⟩, prog_14_method_34_code, 1, some (.int), [])
theorem d_MD_needNumber_0 : decode M_MD_needNumber.2.1 0 = .ok (.aload_n 0, 1) := by decide +kernel
theorem d_MD_needNumber_1 : decode M_MD_needNumber.2.1 1 = .ok (.invokevirtual 133, 3) := by decide +kernel
theorem d_MD_needNumber_4 : decode M_MD_needNumber.2.1 4 = .ok (.aload_n 0, 1) := by decide +kernel
theorem d_MD_needNumber_5 : decode M_MD_needNumber.2.1 5 = .ok (.aload_n 0, 1) := by decide +kernel
theorem d_MD_needNumber_6 : decode M_MD_needNumber.2.1 6 = .ok (.getfield 86, 3) := by decide +kernel
theorem d_MD_needNumber_9 : decode M_MD_needNumber.2.1 9 = .ok (.iconst 2, 1) := by decide +kernel
theorem d_MD_needNumber_10 : decode M_MD_needNumber.2.1 10 = .ok (.if_icmp .ne 7, 3) := by decide +kernel
theorem d_MD_needNumber_13 : decode M_MD_needNumber.2.1 13 = .ok (.iconst 1, 1) := by decide +kernel
theorem d_MD_needNumber_14 : decode M_MD_needNumber.2.1 14 = .ok (.goto 4, 3) := by decide +kernel
theorem d_MD_needNumber_17 : decode M_MD_needNumber.2.1 17 = .ok (.iconst 0, 1) := by decide +kernel
theorem d_MD_needNumber_18 : decode M_MD_needNumber.2.1 18 = .ok (.invokevirtual 139, 3) := by decide +kernel
theorem d_MD_needNumber_21 : decode M_MD_needNumber.2.1 21 = .ok (.ifCond .eq 10, 3) := by decide +kernel
theorem d_MD_needNumber_24 : decode M_MD_needNumber.2.1 24 = .ok (.aload_n 0, 1) := by decide +kernel
theorem d_MD_needNumber_25 : decode M_MD_needNumber.2.1 25 = .ok (.getfield 121, 3) := by decide +kernel
theorem d_MD_needNumber_28 : decode M_MD_needNumber.2.1 28 = .ok (.goto 4, 3) := by decide +kernel
theorem d_MD_needNumber_31 : decode M_MD_needNumber.2.1 31 = .ok (.iconst 0, 1) := by decide +kernel
theorem d_MD_needNumber_32 : decode M_MD_needNumber.2.1 32 = .ok (.ireturn, 1) := by decide +kernel
theorem k_MD_needNumber : x_kV M_MD_needNumber "QuestionReaderModel" 0 := ⟨⟨by decide, Or.inl ⟨w_1414, rfl⟩⟩, w_1413, ws_65, ⟨by decide, by decide⟩, by decide +kernel⟩
def M_MD_list : x_M := (⟨"QuestionReaderModel", "list", "(I)V"⟩, prog_14_method_36_code, 5, none, [])
theorem d_MD_list_0 : decode M_MD_list.2.1 0 = .ok (.iconst 0, 1) := by decide +kernel
theorem d_MD_list_1 : decode M_MD_list.2.1 1 = .ok (.istore_n 2, 1) := by decide +kernel
theorem d_MD_list_2 : decode M_MD_list.2.1 2 = .ok (.aload_n 0, 1) := by decide +kernel
theorem d_MD_list_3 : decode M_MD_list.2.1 3 = .ok (.bipush 40, 2) := by decide +kernel
theorem d_MD_list_5 : decode M_MD_list.2.1 5 = .ok (.invokevirtual 166, 3) := by decide +kernel
theorem d_MD_list_8 : decode M_MD_list.2.1 8 = .ok (.istore_n 3, 1) := by decide +kernel
theorem d_MD_list_9 : decode M_MD_list.2.1 9 = .ok (.iload_n 3, 1) := by decide +kernel
theorem d_MD_list_10 : decode M_MD_list.2.1 10 = .ok (.ifCond .eq 104, 3) := by decide +kernel
theorem d_MD_list_13 : decode M_MD_list.2.1 13 = .ok (.aload_n 0, 1) := by decide +kernel
theorem d_MD_list_14 : decode M_MD_list.2.1 14 = .ok (.invokevirtual 229, 3) := by decide +kernel
theorem d_MD_list_17 : decode M_MD_list.2.1 17 = .ok (.istore 4, 2) := by decide +kernel
theorem d_MD_list_19 : decode M_MD_list.2.1 19 = .ok (.aload_n 0, 1) := by decide +kernel
theorem d_MD_list_20 : decode M_MD_list.2.1 20 = .ok (.iload_n 2, 1) := by decide +kernel
theorem d_MD_list_21 : decode M_MD_list.2.1 21 = .ok (.bipush 40, 2) := by decide +kernel
theorem d_MD_list_23 : decode M_MD_list.2.1 23 = .ok (.if_icmp .ge 7, 3) := by decide +kernel
theorem d_MD_list_26 : decode M_MD_list.2.1 26 = .ok (.iconst 1, 1) := by decide +kernel
theorem d_MD_list_27 : decode M_MD_list.2.1 27 = .ok (.goto 4, 3) := by decide +kernel
theorem d_MD_list_30 : decode M_MD_list.2.1 30 = .ok (.iconst 0, 1) := by decide +kernel
theorem d_MD_list_31 : decode M_MD_list.2.1 31 = .ok (.bipush 7, 2) := by decide +kernel
theorem d_MD_list_33 : decode M_MD_list.2.1 33 = .ok (.aload_n 0, 1) := by decide +kernel
theorem d_MD_list_34 : decode M_MD_list.2.1 34 = .ok (.getfield 77, 3) := by decide +kernel
theorem d_MD_list_37 : decode M_MD_list.2.1 37 = .ok (.invokevirtual 117, 3) := by decide +kernel
theorem d_MD_list_40 : decode M_MD_list.2.1 40 = .ok (.ifCond .eq 19, 3) := by decide +kernel
theorem d_MD_list_43 : decode M_MD_list.2.1 43 = .ok (.aload_n 0, 1) := by decide +kernel
theorem d_MD_list_44 : decode M_MD_list.2.1 44 = .ok (.getfield 50, 3) := by decide +kernel
theorem d_MD_list_47 : decode M_MD_list.2.1 47 = .ok (.getfield 238, 3) := by decide +kernel
theorem d_MD_list_50 : decode M_MD_list.2.1 50 = .ok (.bipush 40, 2) := by decide +kernel
theorem d_MD_list_52 : decode M_MD_list.2.1 52 = .ok (.iload_n 1, 1) := by decide +kernel
theorem d_MD_list_53 : decode M_MD_list.2.1 53 = .ok (.imul, 1) := by decide +kernel
theorem d_MD_list_54 : decode M_MD_list.2.1 54 = .ok (.iload_n 2, 1) := by decide +kernel
theorem d_MD_list_55 : decode M_MD_list.2.1 55 = .ok (.iadd, 1) := by decide +kernel
theorem d_MD_list_56 : decode M_MD_list.2.1 56 = .ok (.iload 4, 2) := by decide +kernel
theorem d_MD_list_58 : decode M_MD_list.2.1 58 = .ok (.iastore, 1) := by decide +kernel
theorem d_MD_list_59 : decode M_MD_list.2.1 59 = .ok (.iinc 2 1, 3) := by decide +kernel
theorem d_MD_list_62 : decode M_MD_list.2.1 62 = .ok (.aload_n 0, 1) := by decide +kernel
theorem d_MD_list_63 : decode M_MD_list.2.1 63 = .ok (.invokevirtual 133, 3) := by decide +kernel
theorem d_MD_list_66 : decode M_MD_list.2.1 66 = .ok (.aload_n 0, 1) := by decide +kernel
theorem d_MD_list_67 : decode M_MD_list.2.1 67 = .ok (.aload_n 0, 1) := by decide +kernel
theorem d_MD_list_68 : decode M_MD_list.2.1 68 = .ok (.bipush 44, 2) := by decide +kernel
theorem d_MD_list_70 : decode M_MD_list.2.1 70 = .ok (.invokevirtual 136, 3) := by decide +kernel
theorem d_MD_list_73 : decode M_MD_list.2.1 73 = .ok (.ifCond .ne 12, 3) := by decide +kernel
theorem d_MD_list_76 : decode M_MD_list.2.1 76 = .ok (.aload_n 0, 1) := by decide +kernel
theorem d_MD_list_77 : decode M_MD_list.2.1 77 = .ok (.bipush 41, 2) := by decide +kernel
theorem d_MD_list_79 : decode M_MD_list.2.1 79 = .ok (.invokevirtual 136, 3) := by decide +kernel
theorem d_MD_list_82 : decode M_MD_list.2.1 82 = .ok (.ifCond .eq 7, 3) := by decide +kernel
theorem d_MD_list_85 : decode M_MD_list.2.1 85 = .ok (.iconst 1, 1) := by decide +kernel
theorem d_MD_list_86 : decode M_MD_list.2.1 86 = .ok (.goto 4, 3) := by decide +kernel
theorem d_MD_list_89 : decode M_MD_list.2.1 89 = .ok (.iconst 0, 1) := by decide +kernel
theorem d_MD_list_90 : decode M_MD_list.2.1 90 = .ok (.invokevirtual 139, 3) := by decide +kernel
theorem d_MD_list_93 : decode M_MD_list.2.1 93 = .ok (.ifCond .eq 16, 3) := by decide +kernel
theorem d_MD_list_96 : decode M_MD_list.2.1 96 = .ok (.aload_n 0, 1) := by decide +kernel
theorem d_MD_list_97 : decode M_MD_list.2.1 97 = .ok (.bipush 44, 2) := by decide +kernel
theorem d_MD_list_99 : decode M_MD_list.2.1 99 = .ok (.invokevirtual 136, 3) := by decide +kernel
theorem d_MD_list_102 : decode M_MD_list.2.1 102 = .ok (.ifCond .eq 7, 3) := by decide +kernel
theorem d_MD_list_105 : decode M_MD_list.2.1 105 = .ok (.iconst 1, 1) := by decide +kernel
theorem d_MD_list_106 : decode M_MD_list.2.1 106 = .ok (.goto 4, 3) := by decide +kernel
theorem d_MD_list_109 : decode M_MD_list.2.1 109 = .ok (.iconst 0, 1) := by decide +kernel
theorem d_MD_list_110 : decode M_MD_list.2.1 110 = .ok (.istore_n 3, 1) := by decide +kernel
theorem d_MD_list_111 : decode M_MD_list.2.1 111 = .ok (.goto (-102), 3) := by decide +kernel
theorem d_MD_list_114 : decode M_MD_list.2.1 114 = .ok (.aload_n 0, 1) := by decide +kernel
theorem d_MD_list_115 : decode M_MD_list.2.1 115 = .ok (.getfield 50, 3) := by decide +kernel
theorem d_MD_list_118 : decode M_MD_list.2.1 118 = .ok (.getfield 226, 3) := by decide +kernel
theorem d_MD_list_121 : decode M_MD_list.2.1 121 = .ok (.iload_n 1, 1) := by decide +kernel
theorem d_MD_list_122 : decode M_MD_list.2.1 122 = .ok (.iload_n 2, 1) := by decide +kernel
theorem d_MD_list_123 : decode M_MD_list.2.1 123 = .ok (.iastore, 1) := by decide +kernel
theorem d_MD_list_124 : decode M_MD_list.2.1 124 = .ok (.return_, 1) := by decide +kernel
theorem k_MD_list : x_kV M_MD_list "QuestionReaderModel" 1 := ⟨⟨by decide, Or.inl ⟨w_1418, rfl⟩⟩, w_1417, ws_66, ⟨by decide, by decide⟩, by decide +kernel⟩
def M_MD_comparison : x_M := (⟨"QuestionReaderModel", "comparison", "()V"⟩, prog_14_method_35_code, 6, none, [])
theorem d_MD_comparison_0 : decode M_MD_comparison.2.1 0 = .ok (.aload_n 0, 1) := by decide +kernel
theorem d_MD_comparison_1 : decode M_MD_comparison.2.1 1 = .ok (.getfield 77, 3) := by decide +kernel
theorem d_MD_comparison_4 : decode M_MD_comparison.2.1 4 = .ok (.istore_n 1, 1) := by decide +kernel
theorem d_MD_comparison_5 : decode M_MD_comparison.2.1 5 = .ok (.aload_n 0, 1) := by decide +kernel
theorem d_MD_comparison_6 : decode M_MD_comparison.2.1 6 = .ok (.invokevirtual 176, 3) := by decide +kernel
theorem d_MD_comparison_9 : decode M_MD_comparison.2.1 9 = .ok (.istore_n 2, 1) := by decide +kernel
theorem d_MD_comparison_10 : decode M_MD_comparison.2.1 10 = .ok (.aload_n 0, 1) := by decide +kernel
theorem d_MD_comparison_11 : decode M_MD_comparison.2.1 11 = .ok (.aload_n 0, 1) := by decide +kernel
theorem d_MD_comparison_12 : decode M_MD_comparison.2.1 12 = .ok (.getfield 50, 3) := by decide +kernel
theorem d_MD_comparison_15 : decode M_MD_comparison.2.1 15 = .ok (.getfield 217, 3) := by decide +kernel
theorem d_MD_comparison_18 : decode M_MD_comparison.2.1 18 = .ok (.bipush 60, 2) := by decide +kernel
theorem d_MD_comparison_20 : decode M_MD_comparison.2.1 20 = .ok (.if_icmp .ge 7, 3) := by decide +kernel
theorem d_MD_comparison_23 : decode M_MD_comparison.2.1 23 = .ok (.iconst 1, 1) := by decide +kernel
theorem d_MD_comparison_24 : decode M_MD_comparison.2.1 24 = .ok (.goto 4, 3) := by decide +kernel
theorem d_MD_comparison_27 : decode M_MD_comparison.2.1 27 = .ok (.iconst 0, 1) := by decide +kernel
theorem d_MD_comparison_28 : decode M_MD_comparison.2.1 28 = .ok (.bipush 7, 2) := by decide +kernel
theorem d_MD_comparison_30 : decode M_MD_comparison.2.1 30 = .ok (.iload_n 1, 1) := by decide +kernel
theorem d_MD_comparison_31 : decode M_MD_comparison.2.1 31 = .ok (.invokevirtual 117, 3) := by decide +kernel
theorem d_MD_comparison_34 : decode M_MD_comparison.2.1 34 = .ok (.ifCond .ne 4, 3) := by decide +kernel
theorem d_MD_comparison_37 : decode M_MD_comparison.2.1 37 = .ok (.return_, 1) := by decide +kernel
theorem d_MD_comparison_38 : decode M_MD_comparison.2.1 38 = .ok (.aload_n 0, 1) := by decide +kernel
theorem d_MD_comparison_39 : decode M_MD_comparison.2.1 39 = .ok (.getfield 50, 3) := by decide +kernel
theorem d_MD_comparison_42 : decode M_MD_comparison.2.1 42 = .ok (.getfield 217, 3) := by decide +kernel
theorem d_MD_comparison_45 : decode M_MD_comparison.2.1 45 = .ok (.istore_n 3, 1) := by decide +kernel
theorem d_MD_comparison_46 : decode M_MD_comparison.2.1 46 = .ok (.aload_n 0, 1) := by decide +kernel
theorem d_MD_comparison_47 : decode M_MD_comparison.2.1 47 = .ok (.getfield 50, 3) := by decide +kernel
theorem d_MD_comparison_50 : decode M_MD_comparison.2.1 50 = .ok (.getfield 220, 3) := by decide +kernel
theorem d_MD_comparison_53 : decode M_MD_comparison.2.1 53 = .ok (.iload_n 3, 1) := by decide +kernel
theorem d_MD_comparison_54 : decode M_MD_comparison.2.1 54 = .ok (.aload_n 0, 1) := by decide +kernel
theorem d_MD_comparison_55 : decode M_MD_comparison.2.1 55 = .ok (.iload_n 2, 1) := by decide +kernel
theorem d_MD_comparison_56 : decode M_MD_comparison.2.1 56 = .ok (.invokevirtual 182, 3) := by decide +kernel
theorem d_MD_comparison_59 : decode M_MD_comparison.2.1 59 = .ok (.iastore, 1) := by decide +kernel
theorem d_MD_comparison_60 : decode M_MD_comparison.2.1 60 = .ok (.aload_n 0, 1) := by decide +kernel
theorem d_MD_comparison_61 : decode M_MD_comparison.2.1 61 = .ok (.invokevirtual 133, 3) := by decide +kernel
theorem d_MD_comparison_64 : decode M_MD_comparison.2.1 64 = .ok (.aload_n 0, 1) := by decide +kernel
theorem d_MD_comparison_65 : decode M_MD_comparison.2.1 65 = .ok (.bipush 61, 2) := by decide +kernel
theorem d_MD_comparison_67 : decode M_MD_comparison.2.1 67 = .ok (.invokevirtual 136, 3) := by decide +kernel
theorem d_MD_comparison_70 : decode M_MD_comparison.2.1 70 = .ok (.ifCond .eq 7, 3) := by decide +kernel
theorem d_MD_comparison_73 : decode M_MD_comparison.2.1 73 = .ok (.iconst 0, 1) := by decide +kernel
theorem d_MD_comparison_74 : decode M_MD_comparison.2.1 74 = .ok (.goto 114, 3) := by decide +kernel
theorem d_MD_comparison_77 : decode M_MD_comparison.2.1 77 = .ok (.aload_n 0, 1) := by decide +kernel
theorem d_MD_comparison_78 : decode M_MD_comparison.2.1 78 = .ok (.sipush 15422, 3) := by decide +kernel
theorem d_MD_comparison_81 : decode M_MD_comparison.2.1 81 = .ok (.invokevirtual 136, 3) := by decide +kernel
theorem d_MD_comparison_84 : decode M_MD_comparison.2.1 84 = .ok (.ifCond .eq 7, 3) := by decide +kernel
theorem d_MD_comparison_87 : decode M_MD_comparison.2.1 87 = .ok (.iconst 1, 1) := by decide +kernel
theorem d_MD_comparison_88 : decode M_MD_comparison.2.1 88 = .ok (.goto 100, 3) := by decide +kernel
theorem d_MD_comparison_91 : decode M_MD_comparison.2.1 91 = .ok (.aload_n 0, 1) := by decide +kernel
theorem d_MD_comparison_92 : decode M_MD_comparison.2.1 92 = .ok (.bipush 60, 2) := by decide +kernel
theorem d_MD_comparison_94 : decode M_MD_comparison.2.1 94 = .ok (.invokevirtual 136, 3) := by decide +kernel
theorem d_MD_comparison_97 : decode M_MD_comparison.2.1 97 = .ok (.ifCond .eq 7, 3) := by decide +kernel
theorem d_MD_comparison_100 : decode M_MD_comparison.2.1 100 = .ok (.iconst 2, 1) := by decide +kernel
theorem d_MD_comparison_101 : decode M_MD_comparison.2.1 101 = .ok (.goto 87, 3) := by decide +kernel
theorem d_MD_comparison_104 : decode M_MD_comparison.2.1 104 = .ok (.aload_n 0, 1) := by decide +kernel
theorem d_MD_comparison_105 : decode M_MD_comparison.2.1 105 = .ok (.sipush 15421, 3) := by decide +kernel
theorem d_MD_comparison_108 : decode M_MD_comparison.2.1 108 = .ok (.invokevirtual 136, 3) := by decide +kernel
theorem d_MD_comparison_111 : decode M_MD_comparison.2.1 111 = .ok (.ifCond .eq 7, 3) := by decide +kernel
theorem d_MD_comparison_114 : decode M_MD_comparison.2.1 114 = .ok (.iconst 3, 1) := by decide +kernel
theorem d_MD_comparison_115 : decode M_MD_comparison.2.1 115 = .ok (.goto 73, 3) := by decide +kernel
theorem d_MD_comparison_118 : decode M_MD_comparison.2.1 118 = .ok (.aload_n 0, 1) := by decide +kernel
theorem d_MD_comparison_119 : decode M_MD_comparison.2.1 119 = .ok (.bipush 62, 2) := by decide +kernel
theorem d_MD_comparison_121 : decode M_MD_comparison.2.1 121 = .ok (.invokevirtual 136, 3) := by decide +kernel
theorem d_MD_comparison_124 : decode M_MD_comparison.2.1 124 = .ok (.ifCond .eq 7, 3) := by decide +kernel
theorem d_MD_comparison_127 : decode M_MD_comparison.2.1 127 = .ok (.iconst 4, 1) := by decide +kernel
theorem d_MD_comparison_128 : decode M_MD_comparison.2.1 128 = .ok (.goto 60, 3) := by decide +kernel
theorem d_MD_comparison_131 : decode M_MD_comparison.2.1 131 = .ok (.aload_n 0, 1) := by decide +kernel
theorem d_MD_comparison_132 : decode M_MD_comparison.2.1 132 = .ok (.sipush 15933, 3) := by decide +kernel
theorem d_MD_comparison_135 : decode M_MD_comparison.2.1 135 = .ok (.invokevirtual 136, 3) := by decide +kernel
theorem d_MD_comparison_138 : decode M_MD_comparison.2.1 138 = .ok (.ifCond .eq 7, 3) := by decide +kernel
theorem d_MD_comparison_141 : decode M_MD_comparison.2.1 141 = .ok (.iconst 5, 1) := by decide +kernel
theorem d_MD_comparison_142 : decode M_MD_comparison.2.1 142 = .ok (.goto 46, 3) := by decide +kernel
theorem d_MD_comparison_145 : decode M_MD_comparison.2.1 145 = .ok (.aload_n 0, 1) := by decide +kernel
theorem d_MD_comparison_146 : decode M_MD_comparison.2.1 146 = .ok (.bipush 17, 2) := by decide +kernel
theorem d_MD_comparison_148 : decode M_MD_comparison.2.1 148 = .ok (.invokevirtual 173, 3) := by decide +kernel
theorem d_MD_comparison_151 : decode M_MD_comparison.2.1 151 = .ok (.ifCond .eq 8, 3) := by decide +kernel
theorem d_MD_comparison_154 : decode M_MD_comparison.2.1 154 = .ok (.bipush 6, 2) := by decide +kernel
theorem d_MD_comparison_156 : decode M_MD_comparison.2.1 156 = .ok (.goto 32, 3) := by decide +kernel
theorem d_MD_comparison_159 : decode M_MD_comparison.2.1 159 = .ok (.aload_n 0, 1) := by decide +kernel
theorem d_MD_comparison_160 : decode M_MD_comparison.2.1 160 = .ok (.bipush 18, 2) := by decide +kernel
theorem d_MD_comparison_162 : decode M_MD_comparison.2.1 162 = .ok (.invokevirtual 173, 3) := by decide +kernel
theorem d_MD_comparison_165 : decode M_MD_comparison.2.1 165 = .ok (.ifCond .eq 8, 3) := by decide +kernel
theorem d_MD_comparison_168 : decode M_MD_comparison.2.1 168 = .ok (.bipush 7, 2) := by decide +kernel
theorem d_MD_comparison_170 : decode M_MD_comparison.2.1 170 = .ok (.goto 18, 3) := by decide +kernel
theorem d_MD_comparison_173 : decode M_MD_comparison.2.1 173 = .ok (.aload_n 0, 1) := by decide +kernel
theorem d_MD_comparison_174 : decode M_MD_comparison.2.1 174 = .ok (.bipush 16, 2) := by decide +kernel
theorem d_MD_comparison_176 : decode M_MD_comparison.2.1 176 = .ok (.invokevirtual 173, 3) := by decide +kernel
theorem d_MD_comparison_179 : decode M_MD_comparison.2.1 179 = .ok (.ifCond .eq 8, 3) := by decide +kernel
theorem d_MD_comparison_182 : decode M_MD_comparison.2.1 182 = .ok (.bipush 8, 2) := by decide +kernel
theorem d_MD_comparison_184 : decode M_MD_comparison.2.1 184 = .ok (.goto 4, 3) := by decide +kernel
theorem d_MD_comparison_187 : decode M_MD_comparison.2.1 187 = .ok (.iconst (-1), 1) := by decide +kernel
theorem d_MD_comparison_188 : decode M_MD_comparison.2.1 188 = .ok (.istore 4, 2) := by decide +kernel
theorem d_MD_comparison_190 : decode M_MD_comparison.2.1 190 = .ok (.aload_n 0, 1) := by decide +kernel
theorem d_MD_comparison_191 : decode M_MD_comparison.2.1 191 = .ok (.iload 4, 2) := by decide +kernel
theorem d_MD_comparison_193 : decode M_MD_comparison.2.1 193 = .ok (.ifCond .lt 7, 3) := by decide +kernel
theorem d_MD_comparison_196 : decode M_MD_comparison.2.1 196 = .ok (.iconst 1, 1) := by decide +kernel
theorem d_MD_comparison_197 : decode M_MD_comparison.2.1 197 = .ok (.goto 4, 3) := by decide +kernel
theorem d_MD_comparison_200 : decode M_MD_comparison.2.1 200 = .ok (.iconst 0, 1) := by decide +kernel
theorem d_MD_comparison_201 : decode M_MD_comparison.2.1 201 = .ok (.invokevirtual 139, 3) := by decide +kernel
theorem d_MD_comparison_204 : decode M_MD_comparison.2.1 204 = .ok (.ifCond .ne 4, 3) := by decide +kernel
theorem d_MD_comparison_207 : decode M_MD_comparison.2.1 207 = .ok (.return_, 1) := by decide +kernel
theorem d_MD_comparison_208 : decode M_MD_comparison.2.1 208 = .ok (.aload_n 0, 1) := by decide +kernel
theorem d_MD_comparison_209 : decode M_MD_comparison.2.1 209 = .ok (.getfield 50, 3) := by decide +kernel
theorem d_MD_comparison_212 : decode M_MD_comparison.2.1 212 = .ok (.getfield 223, 3) := by decide +kernel
theorem d_MD_comparison_215 : decode M_MD_comparison.2.1 215 = .ok (.iload_n 3, 1) := by decide +kernel
theorem d_MD_comparison_216 : decode M_MD_comparison.2.1 216 = .ok (.iload 4, 2) := by decide +kernel
theorem d_MD_comparison_218 : decode M_MD_comparison.2.1 218 = .ok (.iastore, 1) := by decide +kernel
theorem d_MD_comparison_219 : decode M_MD_comparison.2.1 219 = .ok (.iload 4, 2) := by decide +kernel
theorem d_MD_comparison_221 : decode M_MD_comparison.2.1 221 = .ok (.bipush 8, 2) := by decide +kernel
theorem d_MD_comparison_223 : decode M_MD_comparison.2.1 223 = .ok (.if_icmp .ne 19, 3) := by decide +kernel
theorem d_MD_comparison_226 : decode M_MD_comparison.2.1 226 = .ok (.aload_n 0, 1) := by decide +kernel
theorem d_MD_comparison_227 : decode M_MD_comparison.2.1 227 = .ok (.invokevirtual 133, 3) := by decide +kernel
theorem d_MD_comparison_230 : decode M_MD_comparison.2.1 230 = .ok (.aload_n 0, 1) := by decide +kernel
theorem d_MD_comparison_231 : decode M_MD_comparison.2.1 231 = .ok (.aload_n 0, 1) := by decide +kernel
theorem d_MD_comparison_232 : decode M_MD_comparison.2.1 232 = .ok (.bipush 18, 2) := by decide +kernel
theorem d_MD_comparison_234 : decode M_MD_comparison.2.1 234 = .ok (.invokevirtual 173, 3) := by decide +kernel
theorem d_MD_comparison_237 : decode M_MD_comparison.2.1 237 = .ok (.invokevirtual 139, 3) := by decide +kernel
theorem d_MD_comparison_240 : decode M_MD_comparison.2.1 240 = .ok (.istore 5, 2) := by decide +kernel
theorem d_MD_comparison_242 : decode M_MD_comparison.2.1 242 = .ok (.iload 4, 2) := by decide +kernel
theorem d_MD_comparison_244 : decode M_MD_comparison.2.1 244 = .ok (.bipush 7, 2) := by decide +kernel
theorem d_MD_comparison_246 : decode M_MD_comparison.2.1 246 = .ok (.if_icmp .ge 19, 3) := by decide +kernel
theorem d_MD_comparison_249 : decode M_MD_comparison.2.1 249 = .ok (.aload_n 0, 1) := by decide +kernel
theorem d_MD_comparison_250 : decode M_MD_comparison.2.1 250 = .ok (.getfield 50, 3) := by decide +kernel
theorem d_MD_comparison_253 : decode M_MD_comparison.2.1 253 = .ok (.getfield 226, 3) := by decide +kernel
theorem d_MD_comparison_256 : decode M_MD_comparison.2.1 256 = .ok (.iload_n 3, 1) := by decide +kernel
theorem d_MD_comparison_257 : decode M_MD_comparison.2.1 257 = .ok (.aload_n 0, 1) := by decide +kernel
theorem d_MD_comparison_258 : decode M_MD_comparison.2.1 258 = .ok (.invokevirtual 229, 3) := by decide +kernel
theorem d_MD_comparison_261 : decode M_MD_comparison.2.1 261 = .ok (.iastore, 1) := by decide +kernel
theorem d_MD_comparison_262 : decode M_MD_comparison.2.1 262 = .ok (.goto 8, 3) := by decide +kernel
theorem d_MD_comparison_265 : decode M_MD_comparison.2.1 265 = .ok (.aload_n 0, 1) := by decide +kernel
theorem d_MD_comparison_266 : decode M_MD_comparison.2.1 266 = .ok (.iload_n 3, 1) := by decide +kernel
theorem d_MD_comparison_267 : decode M_MD_comparison.2.1 267 = .ok (.invokevirtual 232, 3) := by decide +kernel
theorem d_MD_comparison_270 : decode M_MD_comparison.2.1 270 = .ok (.iload 4, 2) := by decide +kernel
theorem d_MD_comparison_272 : decode M_MD_comparison.2.1 272 = .ok (.bipush 6, 2) := by decide +kernel
theorem d_MD_comparison_274 : decode M_MD_comparison.2.1 274 = .ok (.if_icmp .ne 32, 3) := by decide +kernel
theorem d_MD_comparison_277 : decode M_MD_comparison.2.1 277 = .ok (.aload_n 0, 1) := by decide +kernel
theorem d_MD_comparison_278 : decode M_MD_comparison.2.1 278 = .ok (.invokevirtual 133, 3) := by decide +kernel
theorem d_MD_comparison_281 : decode M_MD_comparison.2.1 281 = .ok (.aload_n 0, 1) := by decide +kernel
theorem d_MD_comparison_282 : decode M_MD_comparison.2.1 282 = .ok (.aload_n 0, 1) := by decide +kernel
theorem d_MD_comparison_283 : decode M_MD_comparison.2.1 283 = .ok (.bipush 14, 2) := by decide +kernel
theorem d_MD_comparison_285 : decode M_MD_comparison.2.1 285 = .ok (.invokevirtual 173, 3) := by decide +kernel
theorem d_MD_comparison_288 : decode M_MD_comparison.2.1 288 = .ok (.invokevirtual 139, 3) := by decide +kernel
theorem d_MD_comparison_291 : decode M_MD_comparison.2.1 291 = .ok (.istore 5, 2) := by decide +kernel
theorem d_MD_comparison_293 : decode M_MD_comparison.2.1 293 = .ok (.aload_n 0, 1) := by decide +kernel
theorem d_MD_comparison_294 : decode M_MD_comparison.2.1 294 = .ok (.getfield 50, 3) := by decide +kernel
theorem d_MD_comparison_297 : decode M_MD_comparison.2.1 297 = .ok (.getfield 235, 3) := by decide +kernel
theorem d_MD_comparison_300 : decode M_MD_comparison.2.1 300 = .ok (.iload_n 3, 1) := by decide +kernel
theorem d_MD_comparison_301 : decode M_MD_comparison.2.1 301 = .ok (.aload_n 0, 1) := by decide +kernel
theorem d_MD_comparison_302 : decode M_MD_comparison.2.1 302 = .ok (.invokevirtual 229, 3) := by decide +kernel
theorem d_MD_comparison_305 : decode M_MD_comparison.2.1 305 = .ok (.iastore, 1) := by decide +kernel
theorem d_MD_comparison_306 : decode M_MD_comparison.2.1 306 = .ok (.aload_n 0, 1) := by decide +kernel
theorem d_MD_comparison_307 : decode M_MD_comparison.2.1 307 = .ok (.getfield 50, 3) := by decide +kernel
theorem d_MD_comparison_310 : decode M_MD_comparison.2.1 310 = .ok (.dup, 1) := by decide +kernel
theorem d_MD_comparison_311 : decode M_MD_comparison.2.1 311 = .ok (.getfield 217, 3) := by decide +kernel
theorem d_MD_comparison_314 : decode M_MD_comparison.2.1 314 = .ok (.iconst 1, 1) := by decide +kernel
theorem d_MD_comparison_315 : decode M_MD_comparison.2.1 315 = .ok (.iadd, 1) := by decide +kernel
theorem d_MD_comparison_316 : decode M_MD_comparison.2.1 316 = .ok (.putfield 217, 3) := by decide +kernel
theorem d_MD_comparison_319 : decode M_MD_comparison.2.1 319 = .ok (.aload_n 0, 1) := by decide +kernel
theorem d_MD_comparison_320 : decode M_MD_comparison.2.1 320 = .ok (.iload_n 3, 1) := by decide +kernel
theorem d_MD_comparison_321 : decode M_MD_comparison.2.1 321 = .ok (.invokevirtual 202, 3) := by decide +kernel
theorem d_MD_comparison_324 : decode M_MD_comparison.2.1 324 = .ok (.aload_n 0, 1) := by decide +kernel
theorem d_MD_comparison_325 : decode M_MD_comparison.2.1 325 = .ok (.invokevirtual 133, 3) := by decide +kernel
theorem d_MD_comparison_328 : decode M_MD_comparison.2.1 328 = .ok (.return_, 1) := by decide +kernel
theorem k_MD_comparison : x_kV M_MD_comparison "QuestionReaderModel" 0 := ⟨⟨by decide, Or.inl ⟨w_1410, rfl⟩⟩, w_1409, ws_64, ⟨by decide, by decide⟩, by decide +kernel⟩
def M_MD_single : x_M := (⟨"QuestionReaderModel", "single", "()V"⟩, prog_14_method_33_code, 3, none, [])
theorem d_MD_single_0 : decode M_MD_single.2.1 0 = .ok (.iconst 0, 1) := by decide +kernel
theorem d_MD_single_1 : decode M_MD_single.2.1 1 = .ok (.istore_n 1, 1) := by decide +kernel
theorem d_MD_single_2 : decode M_MD_single.2.1 2 = .ok (.aload_n 0, 1) := by decide +kernel
theorem d_MD_single_3 : decode M_MD_single.2.1 3 = .ok (.getfield 67, 3) := by decide +kernel
theorem d_MD_single_6 : decode M_MD_single.2.1 6 = .ok (.ifCond .ne 29, 3) := by decide +kernel
theorem d_MD_single_9 : decode M_MD_single.2.1 9 = .ok (.aload_n 0, 1) := by decide +kernel
theorem d_MD_single_10 : decode M_MD_single.2.1 10 = .ok (.bipush 16, 2) := by decide +kernel
theorem d_MD_single_12 : decode M_MD_single.2.1 12 = .ok (.invokevirtual 173, 3) := by decide +kernel
theorem d_MD_single_15 : decode M_MD_single.2.1 15 = .ok (.ifCond .eq 20, 3) := by decide +kernel
theorem d_MD_single_18 : decode M_MD_single.2.1 18 = .ok (.iload_n 1, 1) := by decide +kernel
theorem d_MD_single_19 : decode M_MD_single.2.1 19 = .ok (.ifCond .ne 7, 3) := by decide +kernel
theorem d_MD_single_22 : decode M_MD_single.2.1 22 = .ok (.iconst 1, 1) := by decide +kernel
theorem d_MD_single_23 : decode M_MD_single.2.1 23 = .ok (.goto 4, 3) := by decide +kernel
theorem d_MD_single_26 : decode M_MD_single.2.1 26 = .ok (.iconst 0, 1) := by decide +kernel
theorem d_MD_single_27 : decode M_MD_single.2.1 27 = .ok (.istore_n 1, 1) := by decide +kernel
theorem d_MD_single_28 : decode M_MD_single.2.1 28 = .ok (.aload_n 0, 1) := by decide +kernel
theorem d_MD_single_29 : decode M_MD_single.2.1 29 = .ok (.invokevirtual 133, 3) := by decide +kernel
theorem d_MD_single_32 : decode M_MD_single.2.1 32 = .ok (.goto (-30), 3) := by decide +kernel
theorem d_MD_single_35 : decode M_MD_single.2.1 35 = .ok (.aload_n 0, 1) := by decide +kernel
theorem d_MD_single_36 : decode M_MD_single.2.1 36 = .ok (.getfield 67, 3) := by decide +kernel
theorem d_MD_single_39 : decode M_MD_single.2.1 39 = .ok (.ifCond .ne 90, 3) := by decide +kernel
theorem d_MD_single_42 : decode M_MD_single.2.1 42 = .ok (.aload_n 0, 1) := by decide +kernel
theorem d_MD_single_43 : decode M_MD_single.2.1 43 = .ok (.bipush 40, 2) := by decide +kernel
theorem d_MD_single_45 : decode M_MD_single.2.1 45 = .ok (.invokevirtual 136, 3) := by decide +kernel
theorem d_MD_single_48 : decode M_MD_single.2.1 48 = .ok (.ifCond .eq 81, 3) := by decide +kernel
theorem d_MD_single_51 : decode M_MD_single.2.1 51 = .ok (.aload_n 0, 1) := by decide +kernel
theorem d_MD_single_52 : decode M_MD_single.2.1 52 = .ok (.dup, 1) := by decide +kernel
theorem d_MD_single_53 : decode M_MD_single.2.1 53 = .ok (.getfield 208, 3) := by decide +kernel
theorem d_MD_single_56 : decode M_MD_single.2.1 56 = .ok (.iconst 1, 1) := by decide +kernel
theorem d_MD_single_57 : decode M_MD_single.2.1 57 = .ok (.iadd, 1) := by decide +kernel
theorem d_MD_single_58 : decode M_MD_single.2.1 58 = .ok (.putfield 208, 3) := by decide +kernel
theorem d_MD_single_61 : decode M_MD_single.2.1 61 = .ok (.aload_n 0, 1) := by decide +kernel
theorem d_MD_single_62 : decode M_MD_single.2.1 62 = .ok (.aload_n 0, 1) := by decide +kernel
theorem d_MD_single_63 : decode M_MD_single.2.1 63 = .ok (.getfield 208, 3) := by decide +kernel
theorem d_MD_single_66 : decode M_MD_single.2.1 66 = .ok (.bipush 40, 2) := by decide +kernel
theorem d_MD_single_68 : decode M_MD_single.2.1 68 = .ok (.if_icmp .gt 7, 3) := by decide +kernel
theorem d_MD_single_71 : decode M_MD_single.2.1 71 = .ok (.iconst 1, 1) := by decide +kernel
theorem d_MD_single_72 : decode M_MD_single.2.1 72 = .ok (.goto 4, 3) := by decide +kernel
theorem d_MD_single_75 : decode M_MD_single.2.1 75 = .ok (.iconst 0, 1) := by decide +kernel
theorem d_MD_single_76 : decode M_MD_single.2.1 76 = .ok (.bipush 7, 2) := by decide +kernel
theorem d_MD_single_78 : decode M_MD_single.2.1 78 = .ok (.aload_n 0, 1) := by decide +kernel
theorem d_MD_single_79 : decode M_MD_single.2.1 79 = .ok (.getfield 77, 3) := by decide +kernel
theorem d_MD_single_82 : decode M_MD_single.2.1 82 = .ok (.invokevirtual 117, 3) := by decide +kernel
theorem d_MD_single_85 : decode M_MD_single.2.1 85 = .ok (.istore_n 2, 1) := by decide +kernel
theorem d_MD_single_86 : decode M_MD_single.2.1 86 = .ok (.aload_n 0, 1) := by decide +kernel
theorem d_MD_single_87 : decode M_MD_single.2.1 87 = .ok (.invokevirtual 133, 3) := by decide +kernel
theorem d_MD_single_90 : decode M_MD_single.2.1 90 = .ok (.aload_n 0, 1) := by decide +kernel
theorem d_MD_single_91 : decode M_MD_single.2.1 91 = .ok (.getfield 67, 3) := by decide +kernel
theorem d_MD_single_94 : decode M_MD_single.2.1 94 = .ok (.ifCond .ne 7, 3) := by decide +kernel
theorem d_MD_single_97 : decode M_MD_single.2.1 97 = .ok (.aload_n 0, 1) := by decide +kernel
theorem d_MD_single_98 : decode M_MD_single.2.1 98 = .ok (.invokevirtual 211, 3) := by decide +kernel
theorem d_MD_single_101 : decode M_MD_single.2.1 101 = .ok (.aload_n 0, 1) := by decide +kernel
theorem d_MD_single_102 : decode M_MD_single.2.1 102 = .ok (.aload_n 0, 1) := by decide +kernel
theorem d_MD_single_103 : decode M_MD_single.2.1 103 = .ok (.bipush 41, 2) := by decide +kernel
theorem d_MD_single_105 : decode M_MD_single.2.1 105 = .ok (.invokevirtual 136, 3) := by decide +kernel
theorem d_MD_single_108 : decode M_MD_single.2.1 108 = .ok (.invokevirtual 139, 3) := by decide +kernel
theorem d_MD_single_111 : decode M_MD_single.2.1 111 = .ok (.istore_n 2, 1) := by decide +kernel
theorem d_MD_single_112 : decode M_MD_single.2.1 112 = .ok (.aload_n 0, 1) := by decide +kernel
theorem d_MD_single_113 : decode M_MD_single.2.1 113 = .ok (.dup, 1) := by decide +kernel
theorem d_MD_single_114 : decode M_MD_single.2.1 114 = .ok (.getfield 208, 3) := by decide +kernel
theorem d_MD_single_117 : decode M_MD_single.2.1 117 = .ok (.iconst 1, 1) := by decide +kernel
theorem d_MD_single_118 : decode M_MD_single.2.1 118 = .ok (.isub, 1) := by decide +kernel
theorem d_MD_single_119 : decode M_MD_single.2.1 119 = .ok (.putfield 208, 3) := by decide +kernel
theorem d_MD_single_122 : decode M_MD_single.2.1 122 = .ok (.aload_n 0, 1) := by decide +kernel
theorem d_MD_single_123 : decode M_MD_single.2.1 123 = .ok (.invokevirtual 133, 3) := by decide +kernel
theorem d_MD_single_126 : decode M_MD_single.2.1 126 = .ok (.goto 7, 3) := by decide +kernel
theorem d_MD_single_129 : decode M_MD_single.2.1 129 = .ok (.aload_n 0, 1) := by decide +kernel
theorem d_MD_single_130 : decode M_MD_single.2.1 130 = .ok (.invokevirtual 214, 3) := by decide +kernel
theorem d_MD_single_133 : decode M_MD_single.2.1 133 = .ok (.iload_n 1, 1) := by decide +kernel
theorem d_MD_single_134 : decode M_MD_single.2.1 134 = .ok (.ifCond .eq 8, 3) := by decide +kernel
theorem d_MD_single_137 : decode M_MD_single.2.1 137 = .ok (.aload_n 0, 1) := by decide +kernel
theorem d_MD_single_138 : decode M_MD_single.2.1 138 = .ok (.iconst (-1), 1) := by decide +kernel
theorem d_MD_single_139 : decode M_MD_single.2.1 139 = .ok (.invokevirtual 202, 3) := by decide +kernel
theorem d_MD_single_142 : decode M_MD_single.2.1 142 = .ok (.return_, 1) := by decide +kernel
theorem k_MD_single : x_kV M_MD_single "QuestionReaderModel" 0 := ⟨⟨by decide, Or.inl ⟨w_1406, rfl⟩⟩, w_1405, ws_63, ⟨by decide, by decide⟩, by decide +kernel⟩
def M_MD_both : x_M := (⟨"QuestionReaderModel", "both", "()V"⟩, prog_14_method_32_code, 1, none, [])
theorem d_MD_both_0 : decode M_MD_both.2.1 0 = .ok (.aload_n 0, 1) := by decide +kernel
theorem d_MD_both_1 : decode M_MD_both.2.1 1 = .ok (.invokevirtual 205, 3) := by decide +kernel
theorem d_MD_both_4 : decode M_MD_both.2.1 4 = .ok (.aload_n 0, 1) := by decide +kernel
theorem d_MD_both_5 : decode M_MD_both.2.1 5 = .ok (.getfield 67, 3) := by decide +kernel
theorem d_MD_both_8 : decode M_MD_both.2.1 8 = .ok (.ifCond .ne 29, 3) := by decide +kernel
theorem d_MD_both_11 : decode M_MD_both.2.1 11 = .ok (.aload_n 0, 1) := by decide +kernel
theorem d_MD_both_12 : decode M_MD_both.2.1 12 = .ok (.bipush 14, 2) := by decide +kernel
theorem d_MD_both_14 : decode M_MD_both.2.1 14 = .ok (.invokevirtual 173, 3) := by decide +kernel
theorem d_MD_both_17 : decode M_MD_both.2.1 17 = .ok (.ifCond .eq 20, 3) := by decide +kernel
theorem d_MD_both_20 : decode M_MD_both.2.1 20 = .ok (.aload_n 0, 1) := by decide +kernel
theorem d_MD_both_21 : decode M_MD_both.2.1 21 = .ok (.invokevirtual 133, 3) := by decide +kernel
theorem d_MD_both_24 : decode M_MD_both.2.1 24 = .ok (.aload_n 0, 1) := by decide +kernel
theorem d_MD_both_25 : decode M_MD_both.2.1 25 = .ok (.invokevirtual 205, 3) := by decide +kernel
theorem d_MD_both_28 : decode M_MD_both.2.1 28 = .ok (.aload_n 0, 1) := by decide +kernel
theorem d_MD_both_29 : decode M_MD_both.2.1 29 = .ok (.bipush (-2), 2) := by decide +kernel
theorem d_MD_both_31 : decode M_MD_both.2.1 31 = .ok (.invokevirtual 202, 3) := by decide +kernel
theorem d_MD_both_34 : decode M_MD_both.2.1 34 = .ok (.goto (-30), 3) := by decide +kernel
theorem d_MD_both_37 : decode M_MD_both.2.1 37 = .ok (.return_, 1) := by decide +kernel
theorem k_MD_both : x_kV M_MD_both "QuestionReaderModel" 0 := ⟨⟨by decide, Or.inl ⟨w_1402, rfl⟩⟩, w_1401, ws_62, ⟨by decide, by decide⟩, by decide +kernel⟩
def M_MD_either : x_M := (⟨"QuestionReaderModel", "either", "()V"⟩, prog_14_method_31_code, 1, none, [])
theorem d_MD_either_0 : decode M_MD_either.2.1 0 = .ok (.aload_n 0, 1) := by decide +kernel
theorem d_MD_either_1 : decode M_MD_either.2.1 1 = .ok (.invokevirtual 199, 3) := by decide +kernel
theorem d_MD_either_4 : decode M_MD_either.2.1 4 = .ok (.aload_n 0, 1) := by decide +kernel
theorem d_MD_either_5 : decode M_MD_either.2.1 5 = .ok (.getfield 67, 3) := by decide +kernel
theorem d_MD_either_8 : decode M_MD_either.2.1 8 = .ok (.ifCond .ne 29, 3) := by decide +kernel
theorem d_MD_either_11 : decode M_MD_either.2.1 11 = .ok (.aload_n 0, 1) := by decide +kernel
theorem d_MD_either_12 : decode M_MD_either.2.1 12 = .ok (.bipush 15, 2) := by decide +kernel
theorem d_MD_either_14 : decode M_MD_either.2.1 14 = .ok (.invokevirtual 173, 3) := by decide +kernel
theorem d_MD_either_17 : decode M_MD_either.2.1 17 = .ok (.ifCond .eq 20, 3) := by decide +kernel
theorem d_MD_either_20 : decode M_MD_either.2.1 20 = .ok (.aload_n 0, 1) := by decide +kernel
theorem d_MD_either_21 : decode M_MD_either.2.1 21 = .ok (.invokevirtual 133, 3) := by decide +kernel
theorem d_MD_either_24 : decode M_MD_either.2.1 24 = .ok (.aload_n 0, 1) := by decide +kernel
theorem d_MD_either_25 : decode M_MD_either.2.1 25 = .ok (.invokevirtual 199, 3) := by decide +kernel
theorem d_MD_either_28 : decode M_MD_either.2.1 28 = .ok (.aload_n 0, 1) := by decide +kernel
theorem d_MD_either_29 : decode M_MD_either.2.1 29 = .ok (.bipush (-3), 2) := by decide +kernel
theorem d_MD_either_31 : decode M_MD_either.2.1 31 = .ok (.invokevirtual 202, 3) := by decide +kernel
theorem d_MD_either_34 : decode M_MD_either.2.1 34 = .ok (.goto (-30), 3) := by decide +kernel
theorem d_MD_either_37 : decode M_MD_either.2.1 37 = .ok (.return_, 1) := by decide +kernel
theorem k_MD_either : x_kV M_MD_either "QuestionReaderModel" 0 := ⟨⟨by decide, Or.inl ⟨w_1398, rfl⟩⟩, w_1397, ws_61, ⟨by decide, by decide⟩, by decide +kernel⟩
def M_MD_groupColumn : x_M := (⟨"QuestionReaderModel", "groupColumn", "()V"⟩, prog_14_method_37_code, 6, none, [])
theorem d_MD_groupColumn_0 : decode M_MD_groupColumn.2.1 0 = .ok (.aload_n 0, 1) := by decide +kernel
theorem d_MD_groupColumn_1 : decode M_MD_groupColumn.2.1 1 = .ok (.getfield 77, 3) := by decide +kernel
theorem d_MD_groupColumn_4 : decode M_MD_groupColumn.2.1 4 = .ok (.istore_n 1, 1) := by decide +kernel
theorem d_MD_groupColumn_5 : decode M_MD_groupColumn.2.1 5 = .ok (.aload_n 0, 1) := by decide +kernel
theorem d_MD_groupColumn_6 : decode M_MD_groupColumn.2.1 6 = .ok (.invokevirtual 176, 3) := by decide +kernel
theorem d_MD_groupColumn_9 : decode M_MD_groupColumn.2.1 9 = .ok (.istore_n 2, 1) := by decide +kernel
theorem d_MD_groupColumn_10 : decode M_MD_groupColumn.2.1 10 = .ok (.aload_n 0, 1) := by decide +kernel
theorem d_MD_groupColumn_11 : decode M_MD_groupColumn.2.1 11 = .ok (.aload_n 0, 1) := by decide +kernel
theorem d_MD_groupColumn_12 : decode M_MD_groupColumn.2.1 12 = .ok (.getfield 50, 3) := by decide +kernel
theorem d_MD_groupColumn_15 : decode M_MD_groupColumn.2.1 15 = .ok (.getfield 240, 3) := by decide +kernel
theorem d_MD_groupColumn_18 : decode M_MD_groupColumn.2.1 18 = .ok (.bipush 8, 2) := by decide +kernel
theorem d_MD_groupColumn_20 : decode M_MD_groupColumn.2.1 20 = .ok (.if_icmp .ge 7, 3) := by decide +kernel
theorem d_MD_groupColumn_23 : decode M_MD_groupColumn.2.1 23 = .ok (.iconst 1, 1) := by decide +kernel
theorem d_MD_groupColumn_24 : decode M_MD_groupColumn.2.1 24 = .ok (.goto 4, 3) := by decide +kernel
theorem d_MD_groupColumn_27 : decode M_MD_groupColumn.2.1 27 = .ok (.iconst 0, 1) := by decide +kernel
theorem d_MD_groupColumn_28 : decode M_MD_groupColumn.2.1 28 = .ok (.bipush 7, 2) := by decide +kernel
theorem d_MD_groupColumn_30 : decode M_MD_groupColumn.2.1 30 = .ok (.iload_n 1, 1) := by decide +kernel
theorem d_MD_groupColumn_31 : decode M_MD_groupColumn.2.1 31 = .ok (.invokevirtual 117, 3) := by decide +kernel
theorem d_MD_groupColumn_34 : decode M_MD_groupColumn.2.1 34 = .ok (.ifCond .ne 4, 3) := by decide +kernel
theorem d_MD_groupColumn_37 : decode M_MD_groupColumn.2.1 37 = .ok (.return_, 1) := by decide +kernel
theorem d_MD_groupColumn_38 : decode M_MD_groupColumn.2.1 38 = .ok (.aload_n 0, 1) := by decide +kernel
theorem d_MD_groupColumn_39 : decode M_MD_groupColumn.2.1 39 = .ok (.iload_n 2, 1) := by decide +kernel
theorem d_MD_groupColumn_40 : decode M_MD_groupColumn.2.1 40 = .ok (.invokevirtual 182, 3) := by decide +kernel
theorem d_MD_groupColumn_43 : decode M_MD_groupColumn.2.1 43 = .ok (.istore_n 3, 1) := by decide +kernel
theorem d_MD_groupColumn_44 : decode M_MD_groupColumn.2.1 44 = .ok (.iconst 0, 1) := by decide +kernel
theorem d_MD_groupColumn_45 : decode M_MD_groupColumn.2.1 45 = .ok (.istore 4, 2) := by decide +kernel
theorem d_MD_groupColumn_47 : decode M_MD_groupColumn.2.1 47 = .ok (.iconst 0, 1) := by decide +kernel
theorem d_MD_groupColumn_48 : decode M_MD_groupColumn.2.1 48 = .ok (.istore 5, 2) := by decide +kernel
theorem d_MD_groupColumn_50 : decode M_MD_groupColumn.2.1 50 = .ok (.iload 5, 2) := by decide +kernel
theorem d_MD_groupColumn_52 : decode M_MD_groupColumn.2.1 52 = .ok (.aload_n 0, 1) := by decide +kernel
theorem d_MD_groupColumn_53 : decode M_MD_groupColumn.2.1 53 = .ok (.getfield 50, 3) := by decide +kernel
theorem d_MD_groupColumn_56 : decode M_MD_groupColumn.2.1 56 = .ok (.getfield 240, 3) := by decide +kernel
theorem d_MD_groupColumn_59 : decode M_MD_groupColumn.2.1 59 = .ok (.if_icmp .ge 35, 3) := by decide +kernel
theorem d_MD_groupColumn_62 : decode M_MD_groupColumn.2.1 62 = .ok (.iload 4, 2) := by decide +kernel
theorem d_MD_groupColumn_64 : decode M_MD_groupColumn.2.1 64 = .ok (.ifCond .ne 17, 3) := by decide +kernel
theorem d_MD_groupColumn_67 : decode M_MD_groupColumn.2.1 67 = .ok (.aload_n 0, 1) := by decide +kernel
theorem d_MD_groupColumn_68 : decode M_MD_groupColumn.2.1 68 = .ok (.getfield 50, 3) := by decide +kernel
theorem d_MD_groupColumn_71 : decode M_MD_groupColumn.2.1 71 = .ok (.getfield 243, 3) := by decide +kernel
theorem d_MD_groupColumn_74 : decode M_MD_groupColumn.2.1 74 = .ok (.iload 5, 2) := by decide +kernel
theorem d_MD_groupColumn_76 : decode M_MD_groupColumn.2.1 76 = .ok (.iaload, 1) := by decide +kernel
theorem d_MD_groupColumn_77 : decode M_MD_groupColumn.2.1 77 = .ok (.iload_n 3, 1) := by decide +kernel
theorem d_MD_groupColumn_78 : decode M_MD_groupColumn.2.1 78 = .ok (.if_icmp .ne 7, 3) := by decide +kernel
theorem d_MD_groupColumn_81 : decode M_MD_groupColumn.2.1 81 = .ok (.iconst 1, 1) := by decide +kernel
theorem d_MD_groupColumn_82 : decode M_MD_groupColumn.2.1 82 = .ok (.goto 4, 3) := by decide +kernel
theorem d_MD_groupColumn_85 : decode M_MD_groupColumn.2.1 85 = .ok (.iconst 0, 1) := by decide +kernel
theorem d_MD_groupColumn_86 : decode M_MD_groupColumn.2.1 86 = .ok (.istore 4, 2) := by decide +kernel
theorem d_MD_groupColumn_88 : decode M_MD_groupColumn.2.1 88 = .ok (.iinc 5 1, 3) := by decide +kernel
theorem d_MD_groupColumn_91 : decode M_MD_groupColumn.2.1 91 = .ok (.goto (-41), 3) := by decide +kernel
theorem d_MD_groupColumn_94 : decode M_MD_groupColumn.2.1 94 = .ok (.aload_n 0, 1) := by decide +kernel
theorem d_MD_groupColumn_95 : decode M_MD_groupColumn.2.1 95 = .ok (.iload 4, 2) := by decide +kernel
theorem d_MD_groupColumn_97 : decode M_MD_groupColumn.2.1 97 = .ok (.ifCond .ne 7, 3) := by decide +kernel
theorem d_MD_groupColumn_100 : decode M_MD_groupColumn.2.1 100 = .ok (.iconst 1, 1) := by decide +kernel
theorem d_MD_groupColumn_101 : decode M_MD_groupColumn.2.1 101 = .ok (.goto 4, 3) := by decide +kernel
theorem d_MD_groupColumn_104 : decode M_MD_groupColumn.2.1 104 = .ok (.iconst 0, 1) := by decide +kernel
theorem d_MD_groupColumn_105 : decode M_MD_groupColumn.2.1 105 = .ok (.bipush 10, 2) := by decide +kernel
theorem d_MD_groupColumn_107 : decode M_MD_groupColumn.2.1 107 = .ok (.iload_n 1, 1) := by decide +kernel
theorem d_MD_groupColumn_108 : decode M_MD_groupColumn.2.1 108 = .ok (.invokevirtual 117, 3) := by decide +kernel
theorem d_MD_groupColumn_111 : decode M_MD_groupColumn.2.1 111 = .ok (.ifCond .eq 32, 3) := by decide +kernel
theorem d_MD_groupColumn_114 : decode M_MD_groupColumn.2.1 114 = .ok (.aload_n 0, 1) := by decide +kernel
theorem d_MD_groupColumn_115 : decode M_MD_groupColumn.2.1 115 = .ok (.getfield 50, 3) := by decide +kernel
theorem d_MD_groupColumn_118 : decode M_MD_groupColumn.2.1 118 = .ok (.getfield 243, 3) := by decide +kernel
theorem d_MD_groupColumn_121 : decode M_MD_groupColumn.2.1 121 = .ok (.aload_n 0, 1) := by decide +kernel
theorem d_MD_groupColumn_122 : decode M_MD_groupColumn.2.1 122 = .ok (.getfield 50, 3) := by decide +kernel
theorem d_MD_groupColumn_125 : decode M_MD_groupColumn.2.1 125 = .ok (.getfield 240, 3) := by decide +kernel
theorem d_MD_groupColumn_128 : decode M_MD_groupColumn.2.1 128 = .ok (.iload_n 3, 1) := by decide +kernel
theorem d_MD_groupColumn_129 : decode M_MD_groupColumn.2.1 129 = .ok (.iastore, 1) := by decide +kernel
theorem d_MD_groupColumn_130 : decode M_MD_groupColumn.2.1 130 = .ok (.aload_n 0, 1) := by decide +kernel
theorem d_MD_groupColumn_131 : decode M_MD_groupColumn.2.1 131 = .ok (.getfield 50, 3) := by decide +kernel
theorem d_MD_groupColumn_134 : decode M_MD_groupColumn.2.1 134 = .ok (.dup, 1) := by decide +kernel
theorem d_MD_groupColumn_135 : decode M_MD_groupColumn.2.1 135 = .ok (.getfield 240, 3) := by decide +kernel
theorem d_MD_groupColumn_138 : decode M_MD_groupColumn.2.1 138 = .ok (.iconst 1, 1) := by decide +kernel
theorem d_MD_groupColumn_139 : decode M_MD_groupColumn.2.1 139 = .ok (.iadd, 1) := by decide +kernel
theorem d_MD_groupColumn_140 : decode M_MD_groupColumn.2.1 140 = .ok (.putfield 240, 3) := by decide +kernel
theorem d_MD_groupColumn_143 : decode M_MD_groupColumn.2.1 143 = .ok (.return_, 1) := by decide +kernel
theorem k_MD_groupColumn : x_kV M_MD_groupColumn "QuestionReaderModel" 0 := ⟨⟨by decide, Or.inl ⟨w_1434, rfl⟩⟩, w_1433, ws_70, ⟨by decide, by decide⟩, by decide +kernel⟩
def M_MD_groupsOf : x_M := (⟨"QuestionReaderModel", "groupsOf", "()I"⟩, prog_14_method_38_code, 4, some (.int), [])
theorem d_MD_groupsOf_0 : decode M_MD_groupsOf.2.1 0 = .ok (.aload_n 0, 1) := by decide +kernel
theorem d_MD_groupsOf_1 : decode M_MD_groupsOf.2.1 1 = .ok (.getfield 50, 3) := by decide +kernel
theorem d_MD_groupsOf_4 : decode M_MD_groupsOf.2.1 4 = .ok (.getfield 240, 3) := by decide +kernel
theorem d_MD_groupsOf_7 : decode M_MD_groupsOf.2.1 7 = .ok (.istore_n 1, 1) := by decide +kernel
theorem d_MD_groupsOf_8 : decode M_MD_groupsOf.2.1 8 = .ok (.aload_n 0, 1) := by decide +kernel
theorem d_MD_groupsOf_9 : decode M_MD_groupsOf.2.1 9 = .ok (.bipush 7, 2) := by decide +kernel
theorem d_MD_groupsOf_11 : decode M_MD_groupsOf.2.1 11 = .ok (.invokevirtual 173, 3) := by decide +kernel
theorem d_MD_groupsOf_14 : decode M_MD_groupsOf.2.1 14 = .ok (.ifCond .eq 7, 3) := by decide +kernel
theorem d_MD_groupsOf_17 : decode M_MD_groupsOf.2.1 17 = .ok (.iconst 1, 1) := by decide +kernel
theorem d_MD_groupsOf_18 : decode M_MD_groupsOf.2.1 18 = .ok (.goto 17, 3) := by decide +kernel
theorem d_MD_groupsOf_21 : decode M_MD_groupsOf.2.1 21 = .ok (.aload_n 0, 1) := by decide +kernel
theorem d_MD_groupsOf_22 : decode M_MD_groupsOf.2.1 22 = .ok (.bipush 8, 2) := by decide +kernel
theorem d_MD_groupsOf_24 : decode M_MD_groupsOf.2.1 24 = .ok (.invokevirtual 173, 3) := by decide +kernel
theorem d_MD_groupsOf_27 : decode M_MD_groupsOf.2.1 27 = .ok (.ifCond .eq 7, 3) := by decide +kernel
theorem d_MD_groupsOf_30 : decode M_MD_groupsOf.2.1 30 = .ok (.iconst 2, 1) := by decide +kernel
theorem d_MD_groupsOf_31 : decode M_MD_groupsOf.2.1 31 = .ok (.goto 4, 3) := by decide +kernel
theorem d_MD_groupsOf_34 : decode M_MD_groupsOf.2.1 34 = .ok (.iconst 0, 1) := by decide +kernel
theorem d_MD_groupsOf_35 : decode M_MD_groupsOf.2.1 35 = .ok (.istore_n 2, 1) := by decide +kernel
theorem d_MD_groupsOf_36 : decode M_MD_groupsOf.2.1 36 = .ok (.iload_n 2, 1) := by decide +kernel
theorem d_MD_groupsOf_37 : decode M_MD_groupsOf.2.1 37 = .ok (.ifCond .ne 10, 3) := by decide +kernel
theorem d_MD_groupsOf_40 : decode M_MD_groupsOf.2.1 40 = .ok (.aload_n 0, 1) := by decide +kernel
theorem d_MD_groupsOf_41 : decode M_MD_groupsOf.2.1 41 = .ok (.invokevirtual 246, 3) := by decide +kernel
theorem d_MD_groupsOf_44 : decode M_MD_groupsOf.2.1 44 = .ok (.goto 74, 3) := by decide +kernel
theorem d_MD_groupsOf_47 : decode M_MD_groupsOf.2.1 47 = .ok (.aload_n 0, 1) := by decide +kernel
theorem d_MD_groupsOf_48 : decode M_MD_groupsOf.2.1 48 = .ok (.bipush 40, 2) := by decide +kernel
theorem d_MD_groupsOf_50 : decode M_MD_groupsOf.2.1 50 = .ok (.invokevirtual 166, 3) := by decide +kernel
theorem d_MD_groupsOf_53 : decode M_MD_groupsOf.2.1 53 = .ok (.istore_n 3, 1) := by decide +kernel
theorem d_MD_groupsOf_54 : decode M_MD_groupsOf.2.1 54 = .ok (.iload_n 3, 1) := by decide +kernel
theorem d_MD_groupsOf_55 : decode M_MD_groupsOf.2.1 55 = .ok (.ifCond .eq 63, 3) := by decide +kernel
theorem d_MD_groupsOf_58 : decode M_MD_groupsOf.2.1 58 = .ok (.aload_n 0, 1) := by decide +kernel
theorem d_MD_groupsOf_59 : decode M_MD_groupsOf.2.1 59 = .ok (.invokevirtual 133, 3) := by decide +kernel
theorem d_MD_groupsOf_62 : decode M_MD_groupsOf.2.1 62 = .ok (.aload_n 0, 1) := by decide +kernel
theorem d_MD_groupsOf_63 : decode M_MD_groupsOf.2.1 63 = .ok (.invokevirtual 246, 3) := by decide +kernel
theorem d_MD_groupsOf_66 : decode M_MD_groupsOf.2.1 66 = .ok (.aload_n 0, 1) := by decide +kernel
theorem d_MD_groupsOf_67 : decode M_MD_groupsOf.2.1 67 = .ok (.invokevirtual 133, 3) := by decide +kernel
theorem d_MD_groupsOf_70 : decode M_MD_groupsOf.2.1 70 = .ok (.aload_n 0, 1) := by decide +kernel
theorem d_MD_groupsOf_71 : decode M_MD_groupsOf.2.1 71 = .ok (.aload_n 0, 1) := by decide +kernel
theorem d_MD_groupsOf_72 : decode M_MD_groupsOf.2.1 72 = .ok (.bipush 44, 2) := by decide +kernel
theorem d_MD_groupsOf_74 : decode M_MD_groupsOf.2.1 74 = .ok (.invokevirtual 136, 3) := by decide +kernel
theorem d_MD_groupsOf_77 : decode M_MD_groupsOf.2.1 77 = .ok (.ifCond .ne 12, 3) := by decide +kernel
theorem d_MD_groupsOf_80 : decode M_MD_groupsOf.2.1 80 = .ok (.aload_n 0, 1) := by decide +kernel
theorem d_MD_groupsOf_81 : decode M_MD_groupsOf.2.1 81 = .ok (.bipush 41, 2) := by decide +kernel
theorem d_MD_groupsOf_83 : decode M_MD_groupsOf.2.1 83 = .ok (.invokevirtual 136, 3) := by decide +kernel
theorem d_MD_groupsOf_86 : decode M_MD_groupsOf.2.1 86 = .ok (.ifCond .eq 7, 3) := by decide +kernel
theorem d_MD_groupsOf_89 : decode M_MD_groupsOf.2.1 89 = .ok (.iconst 1, 1) := by decide +kernel
theorem d_MD_groupsOf_90 : decode M_MD_groupsOf.2.1 90 = .ok (.goto 4, 3) := by decide +kernel
theorem d_MD_groupsOf_93 : decode M_MD_groupsOf.2.1 93 = .ok (.iconst 0, 1) := by decide +kernel
theorem d_MD_groupsOf_94 : decode M_MD_groupsOf.2.1 94 = .ok (.invokevirtual 139, 3) := by decide +kernel
theorem d_MD_groupsOf_97 : decode M_MD_groupsOf.2.1 97 = .ok (.ifCond .eq 16, 3) := by decide +kernel
theorem d_MD_groupsOf_100 : decode M_MD_groupsOf.2.1 100 = .ok (.aload_n 0, 1) := by decide +kernel
theorem d_MD_groupsOf_101 : decode M_MD_groupsOf.2.1 101 = .ok (.bipush 44, 2) := by decide +kernel
theorem d_MD_groupsOf_103 : decode M_MD_groupsOf.2.1 103 = .ok (.invokevirtual 136, 3) := by decide +kernel
theorem d_MD_groupsOf_106 : decode M_MD_groupsOf.2.1 106 = .ok (.ifCond .eq 7, 3) := by decide +kernel
theorem d_MD_groupsOf_109 : decode M_MD_groupsOf.2.1 109 = .ok (.iconst 1, 1) := by decide +kernel
theorem d_MD_groupsOf_110 : decode M_MD_groupsOf.2.1 110 = .ok (.goto 4, 3) := by decide +kernel
theorem d_MD_groupsOf_113 : decode M_MD_groupsOf.2.1 113 = .ok (.iconst 0, 1) := by decide +kernel
theorem d_MD_groupsOf_114 : decode M_MD_groupsOf.2.1 114 = .ok (.istore_n 3, 1) := by decide +kernel
theorem d_MD_groupsOf_115 : decode M_MD_groupsOf.2.1 115 = .ok (.goto (-61), 3) := by decide +kernel
theorem d_MD_groupsOf_118 : decode M_MD_groupsOf.2.1 118 = .ok (.aload_n 0, 1) := by decide +kernel
theorem d_MD_groupsOf_119 : decode M_MD_groupsOf.2.1 119 = .ok (.getfield 67, 3) := by decide +kernel
theorem d_MD_groupsOf_122 : decode M_MD_groupsOf.2.1 122 = .ok (.ifCond .le 5, 3) := by decide +kernel
theorem d_MD_groupsOf_125 : decode M_MD_groupsOf.2.1 125 = .ok (.iconst 1, 1) := by decide +kernel
theorem d_MD_groupsOf_126 : decode M_MD_groupsOf.2.1 126 = .ok (.ireturn, 1) := by decide +kernel
theorem d_MD_groupsOf_127 : decode M_MD_groupsOf.2.1 127 = .ok (.aload_n 0, 1) := by decide +kernel
theorem d_MD_groupsOf_128 : decode M_MD_groupsOf.2.1 128 = .ok (.getfield 50, 3) := by decide +kernel
theorem d_MD_groupsOf_131 : decode M_MD_groupsOf.2.1 131 = .ok (.getfield 240, 3) := by decide +kernel
theorem d_MD_groupsOf_134 : decode M_MD_groupsOf.2.1 134 = .ok (.iload_n 1, 1) := by decide +kernel
theorem d_MD_groupsOf_135 : decode M_MD_groupsOf.2.1 135 = .ok (.isub, 1) := by decide +kernel
theorem d_MD_groupsOf_136 : decode M_MD_groupsOf.2.1 136 = .ok (.istore_n 3, 1) := by decide +kernel
theorem d_MD_groupsOf_137 : decode M_MD_groupsOf.2.1 137 = .ok (.aload_n 0, 1) := by decide +kernel
theorem d_MD_groupsOf_138 : decode M_MD_groupsOf.2.1 138 = .ok (.getfield 50, 3) := by decide +kernel
theorem d_MD_groupsOf_141 : decode M_MD_groupsOf.2.1 141 = .ok (.getfield 249, 3) := by decide +kernel
theorem d_MD_groupsOf_144 : decode M_MD_groupsOf.2.1 144 = .ok (.aload_n 0, 1) := by decide +kernel
theorem d_MD_groupsOf_145 : decode M_MD_groupsOf.2.1 145 = .ok (.getfield 50, 3) := by decide +kernel
theorem d_MD_groupsOf_148 : decode M_MD_groupsOf.2.1 148 = .ok (.getfield 252, 3) := by decide +kernel
theorem d_MD_groupsOf_151 : decode M_MD_groupsOf.2.1 151 = .ok (.iload_n 2, 1) := by decide +kernel
theorem d_MD_groupsOf_152 : decode M_MD_groupsOf.2.1 152 = .ok (.iastore, 1) := by decide +kernel
theorem d_MD_groupsOf_153 : decode M_MD_groupsOf.2.1 153 = .ok (.aload_n 0, 1) := by decide +kernel
theorem d_MD_groupsOf_154 : decode M_MD_groupsOf.2.1 154 = .ok (.getfield 50, 3) := by decide +kernel
theorem d_MD_groupsOf_157 : decode M_MD_groupsOf.2.1 157 = .ok (.getfield 255, 3) := by decide +kernel
theorem d_MD_groupsOf_160 : decode M_MD_groupsOf.2.1 160 = .ok (.aload_n 0, 1) := by decide +kernel
theorem d_MD_groupsOf_161 : decode M_MD_groupsOf.2.1 161 = .ok (.getfield 50, 3) := by decide +kernel
theorem d_MD_groupsOf_164 : decode M_MD_groupsOf.2.1 164 = .ok (.getfield 252, 3) := by decide +kernel
theorem d_MD_groupsOf_167 : decode M_MD_groupsOf.2.1 167 = .ok (.iload_n 3, 1) := by decide +kernel
theorem d_MD_groupsOf_168 : decode M_MD_groupsOf.2.1 168 = .ok (.iastore, 1) := by decide +kernel
theorem d_MD_groupsOf_169 : decode M_MD_groupsOf.2.1 169 = .ok (.aload_n 0, 1) := by decide +kernel
theorem d_MD_groupsOf_170 : decode M_MD_groupsOf.2.1 170 = .ok (.getfield 50, 3) := by decide +kernel
theorem d_MD_groupsOf_173 : decode M_MD_groupsOf.2.1 173 = .ok (.dup, 1) := by decide +kernel
theorem d_MD_groupsOf_174 : decode M_MD_groupsOf.2.1 174 = .ok (.getfield 252, 3) := by decide +kernel
theorem d_MD_groupsOf_177 : decode M_MD_groupsOf.2.1 177 = .ok (.iconst 1, 1) := by decide +kernel
theorem d_MD_groupsOf_178 : decode M_MD_groupsOf.2.1 178 = .ok (.iadd, 1) := by decide +kernel
theorem d_MD_groupsOf_179 : decode M_MD_groupsOf.2.1 179 = .ok (.putfield 252, 3) := by decide +kernel
theorem d_MD_groupsOf_182 : decode M_MD_groupsOf.2.1 182 = .ok (.iload_n 2, 1) := by decide +kernel
theorem d_MD_groupsOf_183 : decode M_MD_groupsOf.2.1 183 = .ok (.ifCond .ne 7, 3) := by decide +kernel
theorem d_MD_groupsOf_186 : decode M_MD_groupsOf.2.1 186 = .ok (.iconst 1, 1) := by decide +kernel
theorem d_MD_groupsOf_187 : decode M_MD_groupsOf.2.1 187 = .ok (.goto 17, 3) := by decide +kernel
theorem d_MD_groupsOf_190 : decode M_MD_groupsOf.2.1 190 = .ok (.iload_n 2, 1) := by decide +kernel
theorem d_MD_groupsOf_191 : decode M_MD_groupsOf.2.1 191 = .ok (.iconst 1, 1) := by decide +kernel
theorem d_MD_groupsOf_192 : decode M_MD_groupsOf.2.1 192 = .ok (.if_icmp .ne 9, 3) := by decide +kernel
theorem d_MD_groupsOf_195 : decode M_MD_groupsOf.2.1 195 = .ok (.iload_n 3, 1) := by decide +kernel
theorem d_MD_groupsOf_196 : decode M_MD_groupsOf.2.1 196 = .ok (.iconst 1, 1) := by decide +kernel
theorem d_MD_groupsOf_197 : decode M_MD_groupsOf.2.1 197 = .ok (.iadd, 1) := by decide +kernel
theorem d_MD_groupsOf_198 : decode M_MD_groupsOf.2.1 198 = .ok (.goto 6, 3) := by decide +kernel
theorem d_MD_groupsOf_201 : decode M_MD_groupsOf.2.1 201 = .ok (.iconst 1, 1) := by decide +kernel
theorem d_MD_groupsOf_202 : decode M_MD_groupsOf.2.1 202 = .ok (.iload_n 3, 1) := by decide +kernel
theorem d_MD_groupsOf_203 : decode M_MD_groupsOf.2.1 203 = .ok (.ishl, 1) := by decide +kernel
theorem d_MD_groupsOf_204 : decode M_MD_groupsOf.2.1 204 = .ok (.ireturn, 1) := by decide +kernel
theorem k_MD_groupsOf : x_kV M_MD_groupsOf "QuestionReaderModel" 0 := ⟨⟨by decide, Or.inl ⟨w_1430, rfl⟩⟩, w_1429, ws_69, ⟨by decide, by decide⟩, by decide +kernel⟩
def B_MD_say_36    (m : x_m) : Option (x_m) := some m
theorem b_MD_say_36 {G : x_G} {ex : Bool} {r : x_m}    {m : x_m} (h : B_MD_say_36 m = some r) : x_W G M_MD_say (x_rd 0) (x_Q G (x_rd 0) ex (x_pv r)) ex x_np (x_hp m) 0 0 [] [] 36 := by
  unfold B_MD_say_36 at h
  cases h
  exact x_rv d_MD_say_36 rfl
def F_MD_say  (a1 : Int32) (m : x_m) : Option (x_m) := (if (m.1 387 5) = 0 then (if x_mq (m.2.2.1 387 22) = true then (if x_mq (m.2.2.1 387 22) = true then (if x_ix (m.1 (m.2.2.1 387 22) 11) 2600 = true then (if x_mq ((x_wA m (m.2.2.1 387 22 + 8) (m.1 (m.2.2.1 387 22) 11).toNatClampNeg a1).2.2.1 387 22) = true then B_MD_say_36 (x_wS (x_wA m (m.2.2.1 387 22 + 8) (m.1 (m.2.2.1 387 22) 11).toNatClampNeg a1) ((x_wA m (m.2.2.1 387 22 + 8) (m.1 (m.2.2.1 387 22) 11).toNatClampNeg a1).2.2.1 387 22) 11 (((x_wA m (m.2.2.1 387 22 + 8) (m.1 (m.2.2.1 387 22) 11).toNatClampNeg a1).1 ((x_wA m (m.2.2.1 387 22 + 8) (m.1 (m.2.2.1 387 22) 11).toNatClampNeg a1).2.2.1 387 22) 11) + 1)) else none) else none) else none) else none) else B_MD_say_36 m)
theorem c_MD_say {G : x_G} {ex : Bool} {r : x_m}  {a1 : Int32} {m : x_m} (h : F_MD_say a1 m = some r) : x_R G M_MD_say (x_rd 0) ex [.ref 387, .int a1] x_np (x_hp m) (x_pv r) := by
  unfold F_MD_say at h
  show x_W G M_MD_say (x_rd 0) (x_Q G (x_rd 0) ex (x_pv r)) ex x_np (x_hp m) 0 0 [(0, .ref 387), (1, .int a1)] [] 0
  refine x_aload_n d_MD_say_0 rfl rfl ?_
  refine x_gI d_MD_say_1 (f_MD_67 rfl) sh_MD hp_MD rfl ?_
  refine x_if_ne (tgt := 36) d_MD_say_4 (by decide) (fun c_ => ?_) (fun c_ => ?_)
  · replace h := x_ie h c_
    refine x_sbk [] (lv2 := []) rfl ?_; exact b_MD_say_36 h
  · replace h := x_it h c_
    refine x_aload_n d_MD_say_7 rfl rfl ?_
    refine x_gR d_MD_say_8 (f_MD_50 rfl) sh_MD hp_MD rfl ?_
    obtain ⟨g_8, h⟩ := x_gd h
    refine x_gCN d_MD_say_11 (f_MD_194 rfl) (sh_MQ (x_mq_ok g_8)) (hp_MQ (x_mq_ok g_8)) rfl ?_
    refine x_aload_n d_MD_say_14 rfl rfl ?_
    refine x_gR d_MD_say_15 (f_MD_50 rfl) sh_MD hp_MD rfl ?_
    obtain ⟨g_15, h⟩ := x_gd h
    refine x_gIN d_MD_say_18 (f_MD_196 rfl) (sh_MQ (x_mq_ok g_15)) (hp_MQ (x_mq_ok g_15)) rfl ?_
    refine x_iload_n d_MD_say_21 rfl rfl ?_
    obtain ⟨g_22, h⟩ := x_gd h
    refine x_sI d_MD_say_22 rfl (sa_MQ_sign (x_mq_ok g_8)) (ha_MQ_sign (x_mq_ok g_8)) g_22 ?_
    refine x_aload_n d_MD_say_23 rfl rfl ?_
    refine x_gR d_MD_say_24 (f_MD_50 rfl) sh_MD hp_MD rfl ?_
    obtain ⟨g_24, h⟩ := x_gd h
    refine x_dup d_MD_say_27 rfl ?_
    refine x_gIN d_MD_say_28 (f_MD_196 rfl) (sh_MQ (x_mq_ok g_24)) (hp_MQ (x_mq_ok g_24)) rfl ?_
    refine x_iconst (v := 1) d_MD_say_31 (by decide) ?_
    refine x_iadd d_MD_say_32 ?_
    refine x_pIN d_MD_say_33 (f_MD_196 rfl) tb_MQ rfl (sh_MQ (x_mq_ok g_24)) (hp_MQ (x_mq_ok g_24)) rfl ⟨rfl, rfl⟩ ?_
    refine x_sbk [] (lv2 := []) rfl ?_; exact b_MD_say_36 h
def B_MD_columnsDimension_47   (s0 : Int32) (m : x_m) : Option (Int32 × x_m) := some (s0, m)
theorem b_MD_columnsDimension_47 {G : x_G} {ex : Bool} {r : Int32 × x_m}   {s0 : Int32} {m : x_m} (h : B_MD_columnsDimension_47 s0 m = some r) : x_W G M_MD_columnsDimension (x_rd 3) (x_Q G (x_rd 3) ex (x_pi r)) ex x_np (x_hp m) 0 0 [] [.int s0] 47 := by
  unfold B_MD_columnsDimension_47 at h
  cases h
  exact x_ri d_MD_columnsDimension_47 rfl rfl
def B_MD_columnsDimension_31   (l1 : Int32) (s0 : Int32) (m : x_m) : Option (Int32 × x_m) := ((F_MD_want s0 5 (m.1 387 8) m).bind fun r36 => (if r36.1 = 0 then B_MD_columnsDimension_47 0 r36.2 else B_MD_columnsDimension_47 l1 r36.2))
theorem b_MD_columnsDimension_31 {G : x_G} {ex : Bool} {r : Int32 × x_m}   {l1 : Int32} {s0 : Int32} {m : x_m} (h : B_MD_columnsDimension_31 l1 s0 m = some r) : x_W G M_MD_columnsDimension (x_rd 3) (x_Q G (x_rd 3) ex (x_pi r)) ex x_np (x_hp m) 0 0 [(0, .ref 387), (1, .int l1)] [.int s0, .ref 387] 31 := by
  unfold B_MD_columnsDimension_31 at h
  refine x_iconst (v := 5) d_MD_columnsDimension_31 (by decide) ?_
  refine x_aload_n d_MD_columnsDimension_32 rfl rfl ?_
  refine x_gI d_MD_columnsDimension_33 (f_MD_77 rfl) sh_MD hp_MD rfl ?_
  obtain ⟨r36, e36, h⟩ := x_bd h
  refine x_cVi (M2 := M_MD_want) (As := [.int s0, .int 5, .int (m.1 387 8)]) (st := []) d_MD_columnsDimension_36 w_1315 k_MD_want (c_MD_want e36) rfl sh_MD hp_MD rfl ⟨Nat.le_of_ble_eq_true rfl, Nat.le_of_ble_eq_true rfl⟩ (Nat.le_of_ble_eq_true rfl) (Nat.le_of_ble_eq_true rfl) rfl ?_
  refine x_if_eq (tgt := 46) d_MD_columnsDimension_39 (by decide) (fun c_ => ?_) (fun c_ => ?_)
  · replace h := x_it h c_
    refine x_iconst (v := 0) d_MD_columnsDimension_46 (by decide) ?_
    refine x_sbk [] (lv2 := []) rfl ?_; exact b_MD_columnsDimension_47 h
  · replace h := x_ie h c_
    refine x_iload_n d_MD_columnsDimension_42 rfl rfl ?_
    refine x_goto (tgt := 47) d_MD_columnsDimension_43 (by decide) ?_
    refine x_sbk [] (lv2 := []) rfl ?_; exact b_MD_columnsDimension_47 h
def B_MD_columnsDimension_20   (s0 : Int32) (m : x_m) : Option (Int32 × x_m) := (if s0 < 0 then B_MD_columnsDimension_31 s0 0 m else B_MD_columnsDimension_31 s0 1 m)
theorem b_MD_columnsDimension_20 {G : x_G} {ex : Bool} {r : Int32 × x_m}   {s0 : Int32} {m : x_m} (h : B_MD_columnsDimension_20 s0 m = some r) : x_W G M_MD_columnsDimension (x_rd 3) (x_Q G (x_rd 3) ex (x_pi r)) ex x_np (x_hp m) 0 0 [(0, .ref 387)] [.int s0] 20 := by
  unfold B_MD_columnsDimension_20 at h
  refine x_istore_n (lv2 := [(0, .ref 387), (1, .int s0)]) d_MD_columnsDimension_20 rfl (by decide) rfl ?_
  refine x_aload_n d_MD_columnsDimension_21 rfl rfl ?_
  refine x_iload_n d_MD_columnsDimension_22 rfl rfl ?_
  refine x_if_lt (tgt := 30) d_MD_columnsDimension_23 (by decide) (fun c_ => ?_) (fun c_ => ?_)
  · replace h := x_it h c_
    refine x_iconst (v := 0) d_MD_columnsDimension_30 (by decide) ?_
    exact b_MD_columnsDimension_31 h
  · replace h := x_ie h c_
    refine x_iconst (v := 1) d_MD_columnsDimension_26 (by decide) ?_
    refine x_goto (tgt := 31) d_MD_columnsDimension_27 (by decide) ?_
    exact b_MD_columnsDimension_31 h
def F_MD_columnsDimension   (m : x_m) : Option (Int32 × x_m) := ((F_MD_name m).bind fun r1 => (if r1.1 = 0 then B_MD_columnsDimension_20 0 r1.2 else ((F_MD_among 0 (r1.2.1 387 13) r1.2).bind fun r13 => B_MD_columnsDimension_20 r13.1 r13.2)))
theorem c_MD_columnsDimension {G : x_G} {ex : Bool} {r : Int32 × x_m}   {m : x_m} (h : F_MD_columnsDimension m = some r) : x_R G M_MD_columnsDimension (x_rd 3) ex [.ref 387] x_np (x_hp m) (x_pi r) := by
  unfold F_MD_columnsDimension at h
  show x_W G M_MD_columnsDimension (x_rd 3) (x_Q G (x_rd 3) ex (x_pi r)) ex x_np (x_hp m) 0 0 [(0, .ref 387)] [] 0
  refine x_aload_n d_MD_columnsDimension_0 rfl rfl ?_
  obtain ⟨r1, e1, h⟩ := x_bd h
  refine x_cVi (M2 := M_MD_name) (As := []) (st := []) d_MD_columnsDimension_1 w_1343 k_MD_name (c_MD_name e1) rfl sh_MD hp_MD rfl ⟨Nat.le_of_ble_eq_true rfl, Nat.le_of_ble_eq_true rfl⟩ (Nat.le_of_ble_eq_true rfl) (Nat.le_of_ble_eq_true rfl) rfl ?_
  refine x_if_eq (tgt := 19) d_MD_columnsDimension_4 (by decide) (fun c_ => ?_) (fun c_ => ?_)
  · replace h := x_it h c_
    refine x_iconst (v := 0) d_MD_columnsDimension_19 (by decide) ?_
    exact b_MD_columnsDimension_20 h
  · replace h := x_ie h c_
    refine x_aload_n d_MD_columnsDimension_7 rfl rfl ?_
    refine x_iconst (v := 0) d_MD_columnsDimension_8 (by decide) ?_
    refine x_aload_n d_MD_columnsDimension_9 rfl rfl ?_
    refine x_gI d_MD_columnsDimension_10 (f_MD_150 rfl) sh_MD hp_MD rfl ?_
    obtain ⟨r13, e13, h⟩ := x_bd h
    refine x_cVi (M2 := M_MD_among) (As := [.int 0, .int (r1.2.1 387 13)]) (st := []) d_MD_columnsDimension_13 w_1347 k_MD_among (c_MD_among e13) rfl sh_MD hp_MD rfl ⟨Nat.le_of_ble_eq_true rfl, Nat.le_of_ble_eq_true rfl⟩ (Nat.le_of_ble_eq_true rfl) (Nat.le_of_ble_eq_true rfl) rfl ?_
    refine x_goto (tgt := 20) d_MD_columnsDimension_16 (by decide) ?_
    exact b_MD_columnsDimension_20 h
def B_MD_columnsLevel_73   (s0 : Int32) (m : x_m) : Option (Int32 × x_m) := some (s0, m)
theorem b_MD_columnsLevel_73 {G : x_G} {ex : Bool} {r : Int32 × x_m}   {s0 : Int32} {m : x_m} (h : B_MD_columnsLevel_73 s0 m = some r) : x_W G M_MD_columnsLevel (x_rd 7) (x_Q G (x_rd 7) ex (x_pi r)) ex x_np (x_hp m) 0 0 [] [.int s0] 73 := by
  unfold B_MD_columnsLevel_73 at h
  cases h
  exact x_ri d_MD_columnsLevel_73 rfl rfl
def B_MD_columnsLevel_53   (l1 : Int32) (l2 : Int32) (s0 : Int32) (m : x_m) : Option (Int32 × x_m) := ((F_MD_want s0 5 (m.1 387 8) m).bind fun r58 => (if r58.1 = 0 then B_MD_columnsLevel_73 0 r58.2 else B_MD_columnsLevel_73 ((4 * l1) + l2) r58.2))
theorem b_MD_columnsLevel_53 {G : x_G} {ex : Bool} {r : Int32 × x_m}   {l1 : Int32} {l2 : Int32} {s0 : Int32} {m : x_m} (h : B_MD_columnsLevel_53 l1 l2 s0 m = some r) : x_W G M_MD_columnsLevel (x_rd 7) (x_Q G (x_rd 7) ex (x_pi r)) ex x_np (x_hp m) 0 0 [(0, .ref 387), (1, .int l1), (2, .int l2)] [.int s0, .ref 387] 53 := by
  unfold B_MD_columnsLevel_53 at h
  refine x_iconst (v := 5) d_MD_columnsLevel_53 (by decide) ?_
  refine x_aload_n d_MD_columnsLevel_54 rfl rfl ?_
  refine x_gI d_MD_columnsLevel_55 (f_MD_77 rfl) sh_MD hp_MD rfl ?_
  obtain ⟨r58, e58, h⟩ := x_bd h
  refine x_cVi (M2 := M_MD_want) (As := [.int s0, .int 5, .int (m.1 387 8)]) (st := []) d_MD_columnsLevel_58 w_1315 k_MD_want (c_MD_want e58) rfl sh_MD hp_MD rfl ⟨Nat.le_of_ble_eq_true rfl, Nat.le_of_ble_eq_true rfl⟩ (Nat.le_of_ble_eq_true rfl) (Nat.le_of_ble_eq_true rfl) rfl ?_
  refine x_if_eq (tgt := 72) d_MD_columnsLevel_61 (by decide) (fun c_ => ?_) (fun c_ => ?_)
  · replace h := x_it h c_
    refine x_iconst (v := 0) d_MD_columnsLevel_72 (by decide) ?_
    refine x_sbk [] (lv2 := []) rfl ?_; exact b_MD_columnsLevel_73 h
  · replace h := x_ie h c_
    refine x_iconst (v := 4) d_MD_columnsLevel_64 (by decide) ?_
    refine x_iload_n d_MD_columnsLevel_65 rfl rfl ?_
    refine x_imul d_MD_columnsLevel_66 ?_
    refine x_iload_n d_MD_columnsLevel_67 rfl rfl ?_
    refine x_iadd d_MD_columnsLevel_68 ?_
    refine x_goto (tgt := 73) d_MD_columnsLevel_69 (by decide) ?_
    refine x_sbk [] (lv2 := []) rfl ?_; exact b_MD_columnsLevel_73 h
def B_MD_columnsLevel_42   (l1 : Int32) (s0 : Int32) (m : x_m) : Option (Int32 × x_m) := (if s0 < 0 then B_MD_columnsLevel_53 l1 s0 0 m else B_MD_columnsLevel_53 l1 s0 1 m)
theorem b_MD_columnsLevel_42 {G : x_G} {ex : Bool} {r : Int32 × x_m}   {l1 : Int32} {s0 : Int32} {m : x_m} (h : B_MD_columnsLevel_42 l1 s0 m = some r) : x_W G M_MD_columnsLevel (x_rd 7) (x_Q G (x_rd 7) ex (x_pi r)) ex x_np (x_hp m) 0 0 [(0, .ref 387), (1, .int l1)] [.int s0] 42 := by
  unfold B_MD_columnsLevel_42 at h
  refine x_istore_n (lv2 := [(0, .ref 387), (1, .int l1), (2, .int s0)]) d_MD_columnsLevel_42 rfl (by decide) rfl ?_
  refine x_aload_n d_MD_columnsLevel_43 rfl rfl ?_
  refine x_iload_n d_MD_columnsLevel_44 rfl rfl ?_
  refine x_if_lt (tgt := 52) d_MD_columnsLevel_45 (by decide) (fun c_ => ?_) (fun c_ => ?_)
  · replace h := x_it h c_
    refine x_iconst (v := 0) d_MD_columnsLevel_52 (by decide) ?_
    exact b_MD_columnsLevel_53 h
  · replace h := x_ie h c_
    refine x_iconst (v := 1) d_MD_columnsLevel_48 (by decide) ?_
    refine x_goto (tgt := 53) d_MD_columnsLevel_49 (by decide) ?_
    exact b_MD_columnsLevel_53 h
def F_MD_columnsLevel  (a1 : Int32) (m : x_m) : Option (Int32 × x_m) := ((F_MD_needSign 46 m).bind fun r3 => (if r3.1 = 0 then some (0, r3.2) else ((F_MD_read r3.2).bind fun r12 => ((F_MD_name r12).bind fun r16 => (if r16.1 = 0 then B_MD_columnsLevel_42 a1 0 r16.2 else (if x_ix a1 8 = true then ((F_MD_among (8 + (4 * a1)) (r16.2.2.1 389 a1.toNatClampNeg) r16.2).bind fun r35 => B_MD_columnsLevel_42 a1 r35.1 r35.2) else none))))))
theorem c_MD_columnsLevel {G : x_G} {ex : Bool} {r : Int32 × x_m}  {a1 : Int32} {m : x_m} (h : F_MD_columnsLevel a1 m = some r) : x_R G M_MD_columnsLevel (x_rd 7) ex [.ref 387, .int a1] x_np (x_hp m) (x_pi r) := by
  unfold F_MD_columnsLevel at h
  show x_W G M_MD_columnsLevel (x_rd 7) (x_Q G (x_rd 7) ex (x_pi r)) ex x_np (x_hp m) 0 0 [(0, .ref 387), (1, .int a1)] [] 0
  refine x_aload_n d_MD_columnsLevel_0 rfl rfl ?_
  refine x_bipush (v := 46) d_MD_columnsLevel_1 (by decide) ?_
  obtain ⟨r3, e3, h⟩ := x_bd h
  refine x_cVi (M2 := M_MD_needSign) (As := [.int 46]) (st := []) d_MD_columnsLevel_3 w_1359 k_MD_needSign (c_MD_needSign e3) rfl sh_MD hp_MD rfl ⟨Nat.le_of_ble_eq_true rfl, Nat.le_of_ble_eq_true rfl⟩ (Nat.le_of_ble_eq_true rfl) (Nat.le_of_ble_eq_true rfl) rfl ?_
  refine x_if_ne (tgt := 11) d_MD_columnsLevel_6 (by decide) (fun c_ => ?_) (fun c_ => ?_)
  · replace h := x_ie h c_
    refine x_aload_n d_MD_columnsLevel_11 rfl rfl ?_
    obtain ⟨r12, e12, h⟩ := x_bd h
    refine x_cVv (M2 := M_MD_read) (As := []) (st := []) d_MD_columnsLevel_12 w_1240 k_MD_read (c_MD_read e12) rfl sh_MD hp_MD rfl ⟨Nat.le_of_ble_eq_true rfl, Nat.le_of_ble_eq_true rfl⟩ (Nat.le_of_ble_eq_true rfl) (Nat.le_of_ble_eq_true rfl) rfl ?_
    refine x_aload_n d_MD_columnsLevel_15 rfl rfl ?_
    obtain ⟨r16, e16, h⟩ := x_bd h
    refine x_cVi (M2 := M_MD_name) (As := []) (st := []) d_MD_columnsLevel_16 w_1343 k_MD_name (c_MD_name e16) rfl sh_MD hp_MD rfl ⟨Nat.le_of_ble_eq_true rfl, Nat.le_of_ble_eq_true rfl⟩ (Nat.le_of_ble_eq_true rfl) (Nat.le_of_ble_eq_true rfl) rfl ?_
    refine x_if_eq (tgt := 41) d_MD_columnsLevel_19 (by decide) (fun c_ => ?_) (fun c_ => ?_)
    · replace h := x_it h c_
      refine x_iconst (v := 0) d_MD_columnsLevel_41 (by decide) ?_
      exact b_MD_columnsLevel_42 h
    · replace h := x_ie h c_
      refine x_aload_n d_MD_columnsLevel_22 rfl rfl ?_
      refine x_bipush (v := 8) d_MD_columnsLevel_23 (by decide) ?_
      refine x_iconst (v := 4) d_MD_columnsLevel_25 (by decide) ?_
      refine x_iload_n d_MD_columnsLevel_26 rfl rfl ?_
      refine x_imul d_MD_columnsLevel_27 ?_
      refine x_iadd d_MD_columnsLevel_28 ?_
      refine x_aload_n d_MD_columnsLevel_29 rfl rfl ?_
      refine x_gC d_MD_columnsLevel_30 (f_MD_24 rfl) sh_MD hp_MD rfl ?_
      refine x_iload_n d_MD_columnsLevel_33 rfl rfl ?_
      obtain ⟨g_34, h⟩ := x_gd h
      refine x_lI d_MD_columnsLevel_34 rfl sa_MD_levels ha_MD_levels g_34 ?_
      obtain ⟨r35, e35, h⟩ := x_bd h
      refine x_cVi (M2 := M_MD_among) (As := [.int (8 + (4 * a1)), .int (r16.2.2.1 389 a1.toNatClampNeg)]) (st := []) d_MD_columnsLevel_35 w_1347 k_MD_among (c_MD_among e35) rfl sh_MD hp_MD rfl ⟨Nat.le_of_ble_eq_true rfl, Nat.le_of_ble_eq_true rfl⟩ (Nat.le_of_ble_eq_true rfl) (Nat.le_of_ble_eq_true rfl) rfl ?_
      refine x_goto (tgt := 42) d_MD_columnsLevel_38 (by decide) ?_
      exact b_MD_columnsLevel_42 h
  · replace h := x_it h c_
    refine x_iconst (v := 0) d_MD_columnsLevel_9 (by decide) ?_
    cases h
    exact x_ri d_MD_columnsLevel_10 rfl rfl
def B_MD_needNumber_32   (s0 : Int32) (m : x_m) : Option (Int32 × x_m) := some (s0, m)
theorem b_MD_needNumber_32 {G : x_G} {ex : Bool} {r : Int32 × x_m}   {s0 : Int32} {m : x_m} (h : B_MD_needNumber_32 s0 m = some r) : x_W G M_MD_needNumber (x_rd 6) (x_Q G (x_rd 6) ex (x_pi r)) ex x_np (x_hp m) 0 0 [] [.int s0] 32 := by
  unfold B_MD_needNumber_32 at h
  cases h
  exact x_ri d_MD_needNumber_32 rfl rfl
def B_MD_needNumber_18   (s0 : Int32) (m : x_m) : Option (Int32 × x_m) := ((F_MD_must s0 m).bind fun r18 => (if r18.1 = 0 then B_MD_needNumber_32 0 r18.2 else B_MD_needNumber_32 (r18.2.1 387 11) r18.2))
theorem b_MD_needNumber_18 {G : x_G} {ex : Bool} {r : Int32 × x_m}   {s0 : Int32} {m : x_m} (h : B_MD_needNumber_18 s0 m = some r) : x_W G M_MD_needNumber (x_rd 6) (x_Q G (x_rd 6) ex (x_pi r)) ex x_np (x_hp m) 0 0 [(0, .ref 387)] [.int s0, .ref 387] 18 := by
  unfold B_MD_needNumber_18 at h
  obtain ⟨r18, e18, h⟩ := x_bd h
  refine x_cVi (M2 := M_MD_must) (As := [.int s0]) (st := []) d_MD_needNumber_18 w_1331 k_MD_must (c_MD_must e18) rfl sh_MD hp_MD rfl ⟨Nat.le_of_ble_eq_true rfl, Nat.le_of_ble_eq_true rfl⟩ (Nat.le_of_ble_eq_true rfl) (Nat.le_of_ble_eq_true rfl) rfl ?_
  refine x_if_eq (tgt := 31) d_MD_needNumber_21 (by decide) (fun c_ => ?_) (fun c_ => ?_)
  · replace h := x_it h c_
    refine x_iconst (v := 0) d_MD_needNumber_31 (by decide) ?_
    refine x_sbk [] (lv2 := []) rfl ?_; exact b_MD_needNumber_32 h
  · replace h := x_ie h c_
    refine x_aload_n d_MD_needNumber_24 rfl rfl ?_
    refine x_gI d_MD_needNumber_25 (f_MD_121 rfl) sh_MD hp_MD rfl ?_
    refine x_goto (tgt := 32) d_MD_needNumber_28 (by decide) ?_
    refine x_sbk [] (lv2 := []) rfl ?_; exact b_MD_needNumber_32 h
def F_MD_needNumber   (m : x_m) : Option (Int32 × x_m) := ((F_MD_read m).bind fun r1 => (if (r1.1 387 9) = 2 then B_MD_needNumber_18 1 r1 else B_MD_needNumber_18 0 r1))
theorem c_MD_needNumber {G : x_G} {ex : Bool} {r : Int32 × x_m}   {m : x_m} (h : F_MD_needNumber m = some r) : x_R G M_MD_needNumber (x_rd 6) ex [.ref 387] x_np (x_hp m) (x_pi r) := by
  unfold F_MD_needNumber at h
  show x_W G M_MD_needNumber (x_rd 6) (x_Q G (x_rd 6) ex (x_pi r)) ex x_np (x_hp m) 0 0 [(0, .ref 387)] [] 0
  refine x_aload_n d_MD_needNumber_0 rfl rfl ?_
  obtain ⟨r1, e1, h⟩ := x_bd h
  refine x_cVv (M2 := M_MD_read) (As := []) (st := []) d_MD_needNumber_1 w_1240 k_MD_read (c_MD_read e1) rfl sh_MD hp_MD rfl ⟨Nat.le_of_ble_eq_true rfl, Nat.le_of_ble_eq_true rfl⟩ (Nat.le_of_ble_eq_true rfl) (Nat.le_of_ble_eq_true rfl) rfl ?_
  refine x_aload_n d_MD_needNumber_4 rfl rfl ?_
  refine x_aload_n d_MD_needNumber_5 rfl rfl ?_
  refine x_gI d_MD_needNumber_6 (f_MD_86 rfl) sh_MD hp_MD rfl ?_
  refine x_iconst (v := 2) d_MD_needNumber_9 (by decide) ?_
  refine x_icmp_ne (tgt := 17) d_MD_needNumber_10 (by decide) (fun c_ => ?_) (fun c_ => ?_)
  · replace h := x_ie h c_
    refine x_iconst (v := 0) d_MD_needNumber_17 (by decide) ?_
    exact b_MD_needNumber_18 h
  · replace h := x_it h c_
    refine x_iconst (v := 1) d_MD_needNumber_13 (by decide) ?_
    refine x_goto (tgt := 18) d_MD_needNumber_14 (by decide) ?_
    exact b_MD_needNumber_18 h
def B_MD_list_110  (K9 : Int32 → Int32 → Int32 → x_m → Option (x_m)) (l1 : Int32) (l2 : Int32) (s0 : Int32) (m : x_m) : Option (x_m) := K9 l1 l2 s0 m
theorem b_MD_list_110 {G : x_G} {ex : Bool} {r : x_m}  {K9 : Int32 → Int32 → Int32 → x_m → Option (x_m)} (hK9 : ∀ (l1 : Int32) (l2 : Int32) (l3 : Int32) (m : x_m), K9 l1 l2 l3 m = some r → x_W G M_MD_list (x_rd 7) (x_Q G (x_rd 7) ex (x_pv r)) ex x_np (x_hp m) 0 0 [(0, .ref 387), (1, .int l1), (2, .int l2), (3, .int l3)] [] 9) {l1 : Int32} {l2 : Int32} {s0 : Int32} {m : x_m} (h : B_MD_list_110 K9 l1 l2 s0 m = some r) : x_W G M_MD_list (x_rd 7) (x_Q G (x_rd 7) ex (x_pv r)) ex x_np (x_hp m) 0 0 [(0, .ref 387), (1, .int l1), (2, .int l2)] [.int s0] 110 := by
  unfold B_MD_list_110 at h
  refine x_istore_n (lv2 := [(0, .ref 387), (1, .int l1), (2, .int l2), (3, .int s0)]) d_MD_list_110 rfl (by decide) rfl ?_
  refine x_goto (tgt := 9) d_MD_list_111 (by decide) ?_
  exact hK9 _ _ _ _ h
def B_MD_list_109  (K9 : Int32 → Int32 → Int32 → x_m → Option (x_m)) (l1 : Int32) (l2 : Int32) (m : x_m) : Option (x_m) := B_MD_list_110 K9 l1 l2 0 m
theorem b_MD_list_109 {G : x_G} {ex : Bool} {r : x_m}  {K9 : Int32 → Int32 → Int32 → x_m → Option (x_m)} (hK9 : ∀ (l1 : Int32) (l2 : Int32) (l3 : Int32) (m : x_m), K9 l1 l2 l3 m = some r → x_W G M_MD_list (x_rd 7) (x_Q G (x_rd 7) ex (x_pv r)) ex x_np (x_hp m) 0 0 [(0, .ref 387), (1, .int l1), (2, .int l2), (3, .int l3)] [] 9) {l1 : Int32} {l2 : Int32} {m : x_m} (h : B_MD_list_109 K9 l1 l2 m = some r) : x_W G M_MD_list (x_rd 7) (x_Q G (x_rd 7) ex (x_pv r)) ex x_np (x_hp m) 0 0 [(0, .ref 387), (1, .int l1), (2, .int l2)] [] 109 := by
  unfold B_MD_list_109 at h
  refine x_iconst (v := 0) d_MD_list_109 (by decide) ?_
  exact b_MD_list_110 hK9 h
def B_MD_list_90  (K9 : Int32 → Int32 → Int32 → x_m → Option (x_m)) (l1 : Int32) (l2 : Int32) (s0 : Int32) (m : x_m) : Option (x_m) := ((F_MD_must s0 m).bind fun r90 => (if r90.1 = 0 then B_MD_list_109 K9 l1 l2 r90.2 else ((F_MD_isSign 44 r90.2).bind fun r99 => (if r99.1 = 0 then B_MD_list_109 K9 l1 l2 r99.2 else B_MD_list_110 K9 l1 l2 1 r99.2))))
theorem b_MD_list_90 {G : x_G} {ex : Bool} {r : x_m}  {K9 : Int32 → Int32 → Int32 → x_m → Option (x_m)} (hK9 : ∀ (l1 : Int32) (l2 : Int32) (l3 : Int32) (m : x_m), K9 l1 l2 l3 m = some r → x_W G M_MD_list (x_rd 7) (x_Q G (x_rd 7) ex (x_pv r)) ex x_np (x_hp m) 0 0 [(0, .ref 387), (1, .int l1), (2, .int l2), (3, .int l3)] [] 9) {l1 : Int32} {l2 : Int32} {s0 : Int32} {m : x_m} (h : B_MD_list_90 K9 l1 l2 s0 m = some r) : x_W G M_MD_list (x_rd 7) (x_Q G (x_rd 7) ex (x_pv r)) ex x_np (x_hp m) 0 0 [(0, .ref 387), (1, .int l1), (2, .int l2)] [.int s0, .ref 387] 90 := by
  unfold B_MD_list_90 at h
  obtain ⟨r90, e90, h⟩ := x_bd h
  refine x_cVi (M2 := M_MD_must) (As := [.int s0]) (st := []) d_MD_list_90 w_1331 k_MD_must (c_MD_must e90) rfl sh_MD hp_MD rfl ⟨Nat.le_of_ble_eq_true rfl, Nat.le_of_ble_eq_true rfl⟩ (Nat.le_of_ble_eq_true rfl) (Nat.le_of_ble_eq_true rfl) rfl ?_
  refine x_if_eq (tgt := 109) d_MD_list_93 (by decide) (fun c_ => ?_) (fun c_ => ?_)
  · replace h := x_it h c_
    exact b_MD_list_109 hK9 h
  · replace h := x_ie h c_
    refine x_aload_n d_MD_list_96 rfl rfl ?_
    refine x_bipush (v := 44) d_MD_list_97 (by decide) ?_
    obtain ⟨r99, e99, h⟩ := x_bd h
    refine x_cVi (M2 := M_MD_isSign) (As := [.int 44]) (st := []) d_MD_list_99 w_1363 k_MD_isSign (c_MD_isSign e99) rfl sh_MD hp_MD rfl ⟨Nat.le_of_ble_eq_true rfl, Nat.le_of_ble_eq_true rfl⟩ (Nat.le_of_ble_eq_true rfl) (Nat.le_of_ble_eq_true rfl) rfl ?_
    refine x_if_eq (tgt := 109) d_MD_list_102 (by decide) (fun c_ => ?_) (fun c_ => ?_)
    · replace h := x_it h c_
      exact b_MD_list_109 hK9 h
    · replace h := x_ie h c_
      refine x_iconst (v := 1) d_MD_list_105 (by decide) ?_
      refine x_goto (tgt := 110) d_MD_list_106 (by decide) ?_
      exact b_MD_list_110 hK9 h
def B_MD_list_85  (K9 : Int32 → Int32 → Int32 → x_m → Option (x_m)) (l1 : Int32) (l2 : Int32) (m : x_m) : Option (x_m) := B_MD_list_90 K9 l1 l2 1 m
theorem b_MD_list_85 {G : x_G} {ex : Bool} {r : x_m}  {K9 : Int32 → Int32 → Int32 → x_m → Option (x_m)} (hK9 : ∀ (l1 : Int32) (l2 : Int32) (l3 : Int32) (m : x_m), K9 l1 l2 l3 m = some r → x_W G M_MD_list (x_rd 7) (x_Q G (x_rd 7) ex (x_pv r)) ex x_np (x_hp m) 0 0 [(0, .ref 387), (1, .int l1), (2, .int l2), (3, .int l3)] [] 9) {l1 : Int32} {l2 : Int32} {m : x_m} (h : B_MD_list_85 K9 l1 l2 m = some r) : x_W G M_MD_list (x_rd 7) (x_Q G (x_rd 7) ex (x_pv r)) ex x_np (x_hp m) 0 0 [(0, .ref 387), (1, .int l1), (2, .int l2)] [.ref 387] 85 := by
  unfold B_MD_list_85 at h
  refine x_iconst (v := 1) d_MD_list_85 (by decide) ?_
  refine x_goto (tgt := 90) d_MD_list_86 (by decide) ?_
  exact b_MD_list_90 hK9 h
def B_MD_list_59  (K9 : Int32 → Int32 → Int32 → x_m → Option (x_m)) (l1 : Int32) (l2 : Int32) (m : x_m) : Option (x_m) := ((F_MD_read m).bind fun r63 => ((F_MD_isSign 44 r63).bind fun r70 => (if r70.1 = 0 then ((F_MD_isSign 41 r70.2).bind fun r79 => (if r79.1 = 0 then B_MD_list_90 K9 l1 (l2 + 1) 0 r79.2 else B_MD_list_85 K9 l1 (l2 + 1) r79.2)) else B_MD_list_85 K9 l1 (l2 + 1) r70.2)))
theorem b_MD_list_59 {G : x_G} {ex : Bool} {r : x_m}  {K9 : Int32 → Int32 → Int32 → x_m → Option (x_m)} (hK9 : ∀ (l1 : Int32) (l2 : Int32) (l3 : Int32) (m : x_m), K9 l1 l2 l3 m = some r → x_W G M_MD_list (x_rd 7) (x_Q G (x_rd 7) ex (x_pv r)) ex x_np (x_hp m) 0 0 [(0, .ref 387), (1, .int l1), (2, .int l2), (3, .int l3)] [] 9) {l1 : Int32} {l2 : Int32} {m : x_m} (h : B_MD_list_59 K9 l1 l2 m = some r) : x_W G M_MD_list (x_rd 7) (x_Q G (x_rd 7) ex (x_pv r)) ex x_np (x_hp m) 0 0 [(0, .ref 387), (1, .int l1), (2, .int l2)] [] 59 := by
  unfold B_MD_list_59 at h
  refine x_iinc (v := l2 + 1) (lv2 := [(0, .ref 387), (1, .int l1), (2, .int (l2 + 1))]) d_MD_list_59 rfl rfl (by decide) rfl ?_
  refine x_aload_n d_MD_list_62 rfl rfl ?_
  obtain ⟨r63, e63, h⟩ := x_bd h
  refine x_cVv (M2 := M_MD_read) (As := []) (st := []) d_MD_list_63 w_1240 k_MD_read (c_MD_read e63) rfl sh_MD hp_MD rfl ⟨Nat.le_of_ble_eq_true rfl, Nat.le_of_ble_eq_true rfl⟩ (Nat.le_of_ble_eq_true rfl) (Nat.le_of_ble_eq_true rfl) rfl ?_
  refine x_aload_n d_MD_list_66 rfl rfl ?_
  refine x_aload_n d_MD_list_67 rfl rfl ?_
  refine x_bipush (v := 44) d_MD_list_68 (by decide) ?_
  obtain ⟨r70, e70, h⟩ := x_bd h
  refine x_cVi (M2 := M_MD_isSign) (As := [.int 44]) (st := [.ref 387]) d_MD_list_70 w_1363 k_MD_isSign (c_MD_isSign e70) rfl sh_MD hp_MD rfl ⟨Nat.le_of_ble_eq_true rfl, Nat.le_of_ble_eq_true rfl⟩ (Nat.le_of_ble_eq_true rfl) (Nat.le_of_ble_eq_true rfl) rfl ?_
  refine x_if_ne (tgt := 85) d_MD_list_73 (by decide) (fun c_ => ?_) (fun c_ => ?_)
  · replace h := x_ie h c_
    exact b_MD_list_85 hK9 h
  · replace h := x_it h c_
    refine x_aload_n d_MD_list_76 rfl rfl ?_
    refine x_bipush (v := 41) d_MD_list_77 (by decide) ?_
    obtain ⟨r79, e79, h⟩ := x_bd h
    refine x_cVi (M2 := M_MD_isSign) (As := [.int 41]) (st := [.ref 387]) d_MD_list_79 w_1363 k_MD_isSign (c_MD_isSign e79) rfl sh_MD hp_MD rfl ⟨Nat.le_of_ble_eq_true rfl, Nat.le_of_ble_eq_true rfl⟩ (Nat.le_of_ble_eq_true rfl) (Nat.le_of_ble_eq_true rfl) rfl ?_
    refine x_if_eq (tgt := 89) d_MD_list_82 (by decide) (fun c_ => ?_) (fun c_ => ?_)
    · replace h := x_it h c_
      refine x_iconst (v := 0) d_MD_list_89 (by decide) ?_
      exact b_MD_list_90 hK9 h
    · replace h := x_ie h c_
      exact b_MD_list_85 hK9 h
def B_MD_list_31  (K9 : Int32 → Int32 → Int32 → x_m → Option (x_m)) (l1 : Int32) (l2 : Int32) (l4 : Int32) (s0 : Int32) (m : x_m) : Option (x_m) := ((F_MD_want s0 7 (m.1 387 8) m).bind fun r37 => (if r37.1 = 0 then B_MD_list_59 K9 l1 l2 r37.2 else (if x_mq (r37.2.2.2.1 387 22) = true then (if x_ix ((40 * l1) + l2) 2400 = true then B_MD_list_59 K9 l1 l2 (x_wA r37.2 (r37.2.2.2.1 387 22 + 13) ((40 * l1) + l2).toNatClampNeg l4) else none) else none)))
theorem b_MD_list_31 {G : x_G} {ex : Bool} {r : x_m}  {K9 : Int32 → Int32 → Int32 → x_m → Option (x_m)} (hK9 : ∀ (l1 : Int32) (l2 : Int32) (l3 : Int32) (m : x_m), K9 l1 l2 l3 m = some r → x_W G M_MD_list (x_rd 7) (x_Q G (x_rd 7) ex (x_pv r)) ex x_np (x_hp m) 0 0 [(0, .ref 387), (1, .int l1), (2, .int l2), (3, .int l3)] [] 9) {l1 : Int32} {l2 : Int32} {l4 : Int32} {s0 : Int32} {m : x_m} (h : B_MD_list_31 K9 l1 l2 l4 s0 m = some r) : x_W G M_MD_list (x_rd 7) (x_Q G (x_rd 7) ex (x_pv r)) ex x_np (x_hp m) 0 0 [(0, .ref 387), (1, .int l1), (2, .int l2), (4, .int l4)] [.int s0, .ref 387] 31 := by
  unfold B_MD_list_31 at h
  refine x_bipush (v := 7) d_MD_list_31 (by decide) ?_
  refine x_aload_n d_MD_list_33 rfl rfl ?_
  refine x_gI d_MD_list_34 (f_MD_77 rfl) sh_MD hp_MD rfl ?_
  obtain ⟨r37, e37, h⟩ := x_bd h
  refine x_cVi (M2 := M_MD_want) (As := [.int s0, .int 7, .int (m.1 387 8)]) (st := []) d_MD_list_37 w_1315 k_MD_want (c_MD_want e37) rfl sh_MD hp_MD rfl ⟨Nat.le_of_ble_eq_true rfl, Nat.le_of_ble_eq_true rfl⟩ (Nat.le_of_ble_eq_true rfl) (Nat.le_of_ble_eq_true rfl) rfl ?_
  refine x_if_eq (tgt := 59) d_MD_list_40 (by decide) (fun c_ => ?_) (fun c_ => ?_)
  · replace h := x_it h c_
    refine x_sbk [0, 1, 2] (lv2 := [(0, .ref 387), (1, .int l1), (2, .int l2)]) rfl ?_; exact b_MD_list_59 hK9 h
  · replace h := x_ie h c_
    refine x_aload_n d_MD_list_43 rfl rfl ?_
    refine x_gR d_MD_list_44 (f_MD_50 rfl) sh_MD hp_MD rfl ?_
    obtain ⟨g_44, h⟩ := x_gd h
    refine x_gCN d_MD_list_47 (f_MD_238 rfl) (sh_MQ (x_mq_ok g_44)) (hp_MQ (x_mq_ok g_44)) rfl ?_
    refine x_bipush (v := 40) d_MD_list_50 (by decide) ?_
    refine x_iload_n d_MD_list_52 rfl rfl ?_
    refine x_imul d_MD_list_53 ?_
    refine x_iload_n d_MD_list_54 rfl rfl ?_
    refine x_iadd d_MD_list_55 ?_
    refine x_iload d_MD_list_56 rfl ?_
    obtain ⟨g_58, h⟩ := x_gd h
    refine x_sI d_MD_list_58 rfl (sa_MQ_list (x_mq_ok g_44)) (ha_MQ_list (x_mq_ok g_44)) g_58 ?_
    refine x_sbk [0, 1, 2] (lv2 := [(0, .ref 387), (1, .int l1), (2, .int l2)]) rfl ?_; exact b_MD_list_59 hK9 h
def B_MD_list_9   : Nat → Int32 → Int32 → Int32 → x_m → Option (x_m)
  | 0, _, _, _, _ => none
  | f_ + 1, l1, l2, l3, m => (if l3 = 0 then (if x_mq (m.2.2.1 387 22) = true then (if x_ix l1 60 = true then some (x_wA m (m.2.2.1 387 22 + 11) l1.toNatClampNeg l2) else none) else none) else ((F_MD_needNumber m).bind fun r14 => (if 40 ≤ l2 then B_MD_list_31 (B_MD_list_9 f_) l1 l2 r14.1 0 r14.2 else B_MD_list_31 (B_MD_list_9 f_) l1 l2 r14.1 1 r14.2)))
theorem b_MD_list_9 {G : x_G} {ex : Bool} {r : x_m}   : ∀ (f_ : Nat) (l1 : Int32) (l2 : Int32) (l3 : Int32) (m : x_m), B_MD_list_9 f_ l1 l2 l3 m = some r → x_W G M_MD_list (x_rd 7) (x_Q G (x_rd 7) ex (x_pv r)) ex x_np (x_hp m) 0 0 [(0, .ref 387), (1, .int l1), (2, .int l2), (3, .int l3)] [] 9 := by
  intro f_
  induction f_ with
  | zero => intro l1 l2 l3 m h; exact nomatch h
  | succ f_ ih =>
    intro l1 l2 l3 m h
    rw [B_MD_list_9] at h
    have hK9 := ih
    refine x_iload_n d_MD_list_9 rfl rfl ?_
    refine x_if_eq (tgt := 114) d_MD_list_10 (by decide) (fun c_ => ?_) (fun c_ => ?_)
    · replace h := x_it h c_
      refine x_aload_n d_MD_list_114 rfl rfl ?_
      refine x_gR d_MD_list_115 (f_MD_50 rfl) sh_MD hp_MD rfl ?_
      obtain ⟨g_115, h⟩ := x_gd h
      refine x_gCN d_MD_list_118 (f_MD_226 rfl) (sh_MQ (x_mq_ok g_115)) (hp_MQ (x_mq_ok g_115)) rfl ?_
      refine x_iload_n d_MD_list_121 rfl rfl ?_
      refine x_iload_n d_MD_list_122 rfl rfl ?_
      obtain ⟨g_123, h⟩ := x_gd h
      refine x_sI d_MD_list_123 rfl (sa_MQ_first (x_mq_ok g_115)) (ha_MQ_first (x_mq_ok g_115)) g_123 ?_
      cases h
      exact x_rv d_MD_list_124 rfl
    · replace h := x_ie h c_
      refine x_aload_n d_MD_list_13 rfl rfl ?_
      obtain ⟨r14, e14, h⟩ := x_bd h
      refine x_cVi (M2 := M_MD_needNumber) (As := []) (st := []) d_MD_list_14 w_1411 k_MD_needNumber (c_MD_needNumber e14) rfl sh_MD hp_MD rfl ⟨Nat.le_of_ble_eq_true rfl, Nat.le_of_ble_eq_true rfl⟩ (Nat.le_of_ble_eq_true rfl) (Nat.le_of_ble_eq_true rfl) rfl ?_
      refine x_istore (lv2 := [(0, .ref 387), (1, .int l1), (2, .int l2), (3, .int l3), (4, .int r14.1)]) d_MD_list_17 (by decide) rfl ?_
      refine x_aload_n d_MD_list_19 rfl rfl ?_
      refine x_iload_n d_MD_list_20 rfl rfl ?_
      refine x_bipush (v := 40) d_MD_list_21 (by decide) ?_
      refine x_icmp_ge (tgt := 30) d_MD_list_23 (by decide) (fun c_ => ?_) (fun c_ => ?_)
      · replace h := x_it h c_
        refine x_iconst (v := 0) d_MD_list_30 (by decide) ?_
        refine x_sbk [0, 1, 2, 4] (lv2 := [(0, .ref 387), (1, .int l1), (2, .int l2), (4, .int r14.1)]) rfl ?_; exact b_MD_list_31 hK9 h
      · replace h := x_ie h c_
        refine x_iconst (v := 1) d_MD_list_26 (by decide) ?_
        refine x_goto (tgt := 31) d_MD_list_27 (by decide) ?_
        refine x_sbk [0, 1, 2, 4] (lv2 := [(0, .ref 387), (1, .int l1), (2, .int l2), (4, .int r14.1)]) rfl ?_; exact b_MD_list_31 hK9 h
def F_MD_list  (a1 : Int32) (m : x_m) : Option (x_m) := ((F_MD_needSign 40 m).bind fun r5 => B_MD_list_9 x_fu a1 0 r5.1 r5.2)
theorem c_MD_list {G : x_G} {ex : Bool} {r : x_m}  {a1 : Int32} {m : x_m} (h : F_MD_list a1 m = some r) : x_R G M_MD_list (x_rd 7) ex [.ref 387, .int a1] x_np (x_hp m) (x_pv r) := by
  unfold F_MD_list at h
  show x_W G M_MD_list (x_rd 7) (x_Q G (x_rd 7) ex (x_pv r)) ex x_np (x_hp m) 0 0 [(0, .ref 387), (1, .int a1)] [] 0
  refine x_iconst (v := 0) d_MD_list_0 (by decide) ?_
  refine x_istore_n (lv2 := [(0, .ref 387), (1, .int a1), (2, .int 0)]) d_MD_list_1 rfl (by decide) rfl ?_
  refine x_aload_n d_MD_list_2 rfl rfl ?_
  refine x_bipush (v := 40) d_MD_list_3 (by decide) ?_
  obtain ⟨r5, e5, h⟩ := x_bd h
  refine x_cVi (M2 := M_MD_needSign) (As := [.int 40]) (st := []) d_MD_list_5 w_1359 k_MD_needSign (c_MD_needSign e5) rfl sh_MD hp_MD rfl ⟨Nat.le_of_ble_eq_true rfl, Nat.le_of_ble_eq_true rfl⟩ (Nat.le_of_ble_eq_true rfl) (Nat.le_of_ble_eq_true rfl) rfl ?_
  refine x_istore_n (lv2 := [(0, .ref 387), (1, .int a1), (2, .int 0), (3, .int r5.1)]) d_MD_list_8 rfl (by decide) rfl ?_
  exact b_MD_list_9 _ _ _ _ _ h
def B_MD_comparison_306   (l3 : Int32) (m : x_m) : Option (x_m) := (if x_mq (m.2.2.1 387 22) = true then ((F_MD_say l3 (x_wS m (m.2.2.1 387 22) 13 ((m.1 (m.2.2.1 387 22) 13) + 1))).bind fun r321 => ((F_MD_read r321).bind fun r325 => some r325)) else none)
theorem b_MD_comparison_306 {G : x_G} {ex : Bool} {r : x_m}   {l3 : Int32} {m : x_m} (h : B_MD_comparison_306 l3 m = some r) : x_W G M_MD_comparison (x_rd 8) (x_Q G (x_rd 8) ex (x_pv r)) ex x_np (x_hp m) 0 0 [(0, .ref 387), (3, .int l3)] [] 306 := by
  unfold B_MD_comparison_306 at h
  refine x_aload_n d_MD_comparison_306 rfl rfl ?_
  refine x_gR d_MD_comparison_307 (f_MD_50 rfl) sh_MD hp_MD rfl ?_
  obtain ⟨g_307, h⟩ := x_gd h
  refine x_dup d_MD_comparison_310 rfl ?_
  refine x_gIN d_MD_comparison_311 (f_MD_217 rfl) (sh_MQ (x_mq_ok g_307)) (hp_MQ (x_mq_ok g_307)) rfl ?_
  refine x_iconst (v := 1) d_MD_comparison_314 (by decide) ?_
  refine x_iadd d_MD_comparison_315 ?_
  refine x_pIN d_MD_comparison_316 (f_MD_217 rfl) tb_MQ rfl (sh_MQ (x_mq_ok g_307)) (hp_MQ (x_mq_ok g_307)) rfl ⟨rfl, rfl⟩ ?_
  refine x_aload_n d_MD_comparison_319 rfl rfl ?_
  refine x_iload_n d_MD_comparison_320 rfl rfl ?_
  obtain ⟨r321, e321, h⟩ := x_bd h
  refine x_cVv (M2 := M_MD_say) (As := [.int l3]) (st := []) d_MD_comparison_321 w_1419 k_MD_say (c_MD_say e321) rfl sh_MD hp_MD rfl ⟨Nat.le_of_ble_eq_true rfl, Nat.le_of_ble_eq_true rfl⟩ (Nat.le_of_ble_eq_true rfl) (Nat.le_of_ble_eq_true rfl) rfl ?_
  refine x_aload_n d_MD_comparison_324 rfl rfl ?_
  obtain ⟨r325, e325, h⟩ := x_bd h
  refine x_cVv (M2 := M_MD_read) (As := []) (st := []) d_MD_comparison_325 w_1240 k_MD_read (c_MD_read e325) rfl sh_MD hp_MD rfl ⟨Nat.le_of_ble_eq_true rfl, Nat.le_of_ble_eq_true rfl⟩ (Nat.le_of_ble_eq_true rfl) (Nat.le_of_ble_eq_true rfl) rfl ?_
  cases h
  exact x_rv d_MD_comparison_328 rfl
def B_MD_comparison_270   (l3 : Int32) (l4 : Int32) (m : x_m) : Option (x_m) := (if l4 = 6 then ((F_MD_read m).bind fun r278 => ((F_MD_isWord 14 r278).bind fun r285 => ((F_MD_must r285.1 r285.2).bind fun r288 => (if x_mq (r288.2.2.2.1 387 22) = true then ((F_MD_needNumber r288.2).bind fun r302 => (if x_ix l3 60 = true then B_MD_comparison_306 l3 (x_wA r302.2 (r288.2.2.2.1 387 22 + 12) l3.toNatClampNeg r302.1) else none)) else none)))) else B_MD_comparison_306 l3 m)
theorem b_MD_comparison_270 {G : x_G} {ex : Bool} {r : x_m}   {l3 : Int32} {l4 : Int32} {m : x_m} (h : B_MD_comparison_270 l3 l4 m = some r) : x_W G M_MD_comparison (x_rd 8) (x_Q G (x_rd 8) ex (x_pv r)) ex x_np (x_hp m) 0 0 [(0, .ref 387), (3, .int l3), (4, .int l4)] [] 270 := by
  unfold B_MD_comparison_270 at h
  refine x_iload d_MD_comparison_270 rfl ?_
  refine x_bipush (v := 6) d_MD_comparison_272 (by decide) ?_
  refine x_icmp_ne (tgt := 306) d_MD_comparison_274 (by decide) (fun c_ => ?_) (fun c_ => ?_)
  · replace h := x_ie h c_
    refine x_sbk [0, 1] (lv2 := [(0, .ref 387), (3, .int l3)]) rfl ?_; exact b_MD_comparison_306 h
  · replace h := x_it h c_
    refine x_aload_n d_MD_comparison_277 rfl rfl ?_
    obtain ⟨r278, e278, h⟩ := x_bd h
    refine x_cVv (M2 := M_MD_read) (As := []) (st := []) d_MD_comparison_278 w_1240 k_MD_read (c_MD_read e278) rfl sh_MD hp_MD rfl ⟨Nat.le_of_ble_eq_true rfl, Nat.le_of_ble_eq_true rfl⟩ (Nat.le_of_ble_eq_true rfl) (Nat.le_of_ble_eq_true rfl) rfl ?_
    refine x_aload_n d_MD_comparison_281 rfl rfl ?_
    refine x_aload_n d_MD_comparison_282 rfl rfl ?_
    refine x_bipush (v := 14) d_MD_comparison_283 (by decide) ?_
    obtain ⟨r285, e285, h⟩ := x_bd h
    refine x_cVi (M2 := M_MD_isWord) (As := [.int 14]) (st := [.ref 387]) d_MD_comparison_285 w_1327 k_MD_isWord (c_MD_isWord e285) rfl sh_MD hp_MD rfl ⟨Nat.le_of_ble_eq_true rfl, Nat.le_of_ble_eq_true rfl⟩ (Nat.le_of_ble_eq_true rfl) (Nat.le_of_ble_eq_true rfl) rfl ?_
    obtain ⟨r288, e288, h⟩ := x_bd h
    refine x_cVi (M2 := M_MD_must) (As := [.int r285.1]) (st := []) d_MD_comparison_288 w_1331 k_MD_must (c_MD_must e288) rfl sh_MD hp_MD rfl ⟨Nat.le_of_ble_eq_true rfl, Nat.le_of_ble_eq_true rfl⟩ (Nat.le_of_ble_eq_true rfl) (Nat.le_of_ble_eq_true rfl) rfl ?_
    refine x_istore (lv2 := [(0, .ref 387), (3, .int l3), (4, .int l4), (5, .int r288.1)]) d_MD_comparison_291 (by decide) rfl ?_
    refine x_aload_n d_MD_comparison_293 rfl rfl ?_
    refine x_gR d_MD_comparison_294 (f_MD_50 rfl) sh_MD hp_MD rfl ?_
    obtain ⟨g_294, h⟩ := x_gd h
    refine x_gCN d_MD_comparison_297 (f_MD_235 rfl) (sh_MQ (x_mq_ok g_294)) (hp_MQ (x_mq_ok g_294)) rfl ?_
    refine x_iload_n d_MD_comparison_300 rfl rfl ?_
    refine x_aload_n d_MD_comparison_301 rfl rfl ?_
    obtain ⟨r302, e302, h⟩ := x_bd h
    refine x_cVi (M2 := M_MD_needNumber) (As := []) (st := [.int l3, .ref (r288.2.2.2.1 387 22 + 12)]) d_MD_comparison_302 w_1411 k_MD_needNumber (c_MD_needNumber e302) rfl sh_MD hp_MD rfl ⟨Nat.le_of_ble_eq_true rfl, Nat.le_of_ble_eq_true rfl⟩ (Nat.le_of_ble_eq_true rfl) (Nat.le_of_ble_eq_true rfl) rfl ?_
    obtain ⟨g_305, h⟩ := x_gd h
    refine x_sI d_MD_comparison_305 rfl (sa_MQ_second (x_mq_ok g_294)) (ha_MQ_second (x_mq_ok g_294)) g_305 ?_
    refine x_sbk [0, 1] (lv2 := [(0, .ref 387), (3, .int l3)]) rfl ?_; exact b_MD_comparison_306 h
def B_MD_comparison_242   (l3 : Int32) (l4 : Int32) (m : x_m) : Option (x_m) := (if 7 ≤ l4 then ((F_MD_list l3 m).bind fun r267 => B_MD_comparison_270 l3 l4 r267) else (if x_mq (m.2.2.1 387 22) = true then ((F_MD_needNumber m).bind fun r258 => (if x_ix l3 60 = true then B_MD_comparison_270 l3 l4 (x_wA r258.2 (m.2.2.1 387 22 + 11) l3.toNatClampNeg r258.1) else none)) else none))
theorem b_MD_comparison_242 {G : x_G} {ex : Bool} {r : x_m}   {l3 : Int32} {l4 : Int32} {m : x_m} (h : B_MD_comparison_242 l3 l4 m = some r) : x_W G M_MD_comparison (x_rd 8) (x_Q G (x_rd 8) ex (x_pv r)) ex x_np (x_hp m) 0 0 [(0, .ref 387), (3, .int l3), (4, .int l4)] [] 242 := by
  unfold B_MD_comparison_242 at h
  refine x_iload d_MD_comparison_242 rfl ?_
  refine x_bipush (v := 7) d_MD_comparison_244 (by decide) ?_
  refine x_icmp_ge (tgt := 265) d_MD_comparison_246 (by decide) (fun c_ => ?_) (fun c_ => ?_)
  · replace h := x_it h c_
    refine x_aload_n d_MD_comparison_265 rfl rfl ?_
    refine x_iload_n d_MD_comparison_266 rfl rfl ?_
    obtain ⟨r267, e267, h⟩ := x_bd h
    refine x_cVv (M2 := M_MD_list) (As := [.int l3]) (st := []) d_MD_comparison_267 w_1415 k_MD_list (c_MD_list e267) rfl sh_MD hp_MD rfl ⟨Nat.le_of_ble_eq_true rfl, Nat.le_of_ble_eq_true rfl⟩ (Nat.le_of_ble_eq_true rfl) (Nat.le_of_ble_eq_true rfl) rfl ?_
    exact b_MD_comparison_270 h
  · replace h := x_ie h c_
    refine x_aload_n d_MD_comparison_249 rfl rfl ?_
    refine x_gR d_MD_comparison_250 (f_MD_50 rfl) sh_MD hp_MD rfl ?_
    obtain ⟨g_250, h⟩ := x_gd h
    refine x_gCN d_MD_comparison_253 (f_MD_226 rfl) (sh_MQ (x_mq_ok g_250)) (hp_MQ (x_mq_ok g_250)) rfl ?_
    refine x_iload_n d_MD_comparison_256 rfl rfl ?_
    refine x_aload_n d_MD_comparison_257 rfl rfl ?_
    obtain ⟨r258, e258, h⟩ := x_bd h
    refine x_cVi (M2 := M_MD_needNumber) (As := []) (st := [.int l3, .ref (m.2.2.1 387 22 + 11)]) d_MD_comparison_258 w_1411 k_MD_needNumber (c_MD_needNumber e258) rfl sh_MD hp_MD rfl ⟨Nat.le_of_ble_eq_true rfl, Nat.le_of_ble_eq_true rfl⟩ (Nat.le_of_ble_eq_true rfl) (Nat.le_of_ble_eq_true rfl) rfl ?_
    obtain ⟨g_261, h⟩ := x_gd h
    refine x_sI d_MD_comparison_261 rfl (sa_MQ_first (x_mq_ok g_250)) (ha_MQ_first (x_mq_ok g_250)) g_261 ?_
    refine x_goto (tgt := 270) d_MD_comparison_262 (by decide) ?_
    exact b_MD_comparison_270 h
def B_MD_comparison_201   (l3 : Int32) (l4 : Int32) (s0 : Int32) (m : x_m) : Option (x_m) := ((F_MD_must s0 m).bind fun r201 => (if r201.1 = 0 then some r201.2 else (if x_mq (r201.2.2.2.1 387 22) = true then (if x_ix l3 60 = true then (if l4 = 8 then ((F_MD_read (x_wA r201.2 (r201.2.2.2.1 387 22 + 10) l3.toNatClampNeg l4)).bind fun r227 => ((F_MD_isWord 18 r227).bind fun r234 => ((F_MD_must r234.1 r234.2).bind fun r237 => B_MD_comparison_242 l3 l4 r237.2))) else B_MD_comparison_242 l3 l4 (x_wA r201.2 (r201.2.2.2.1 387 22 + 10) l3.toNatClampNeg l4)) else none) else none)))
theorem b_MD_comparison_201 {G : x_G} {ex : Bool} {r : x_m}   {l3 : Int32} {l4 : Int32} {s0 : Int32} {m : x_m} (h : B_MD_comparison_201 l3 l4 s0 m = some r) : x_W G M_MD_comparison (x_rd 8) (x_Q G (x_rd 8) ex (x_pv r)) ex x_np (x_hp m) 0 0 [(0, .ref 387), (3, .int l3), (4, .int l4)] [.int s0, .ref 387] 201 := by
  unfold B_MD_comparison_201 at h
  obtain ⟨r201, e201, h⟩ := x_bd h
  refine x_cVi (M2 := M_MD_must) (As := [.int s0]) (st := []) d_MD_comparison_201 w_1331 k_MD_must (c_MD_must e201) rfl sh_MD hp_MD rfl ⟨Nat.le_of_ble_eq_true rfl, Nat.le_of_ble_eq_true rfl⟩ (Nat.le_of_ble_eq_true rfl) (Nat.le_of_ble_eq_true rfl) rfl ?_
  refine x_if_ne (tgt := 208) d_MD_comparison_204 (by decide) (fun c_ => ?_) (fun c_ => ?_)
  · replace h := x_ie h c_
    refine x_aload_n d_MD_comparison_208 rfl rfl ?_
    refine x_gR d_MD_comparison_209 (f_MD_50 rfl) sh_MD hp_MD rfl ?_
    obtain ⟨g_209, h⟩ := x_gd h
    refine x_gCN d_MD_comparison_212 (f_MD_223 rfl) (sh_MQ (x_mq_ok g_209)) (hp_MQ (x_mq_ok g_209)) rfl ?_
    refine x_iload_n d_MD_comparison_215 rfl rfl ?_
    refine x_iload d_MD_comparison_216 rfl ?_
    obtain ⟨g_218, h⟩ := x_gd h
    refine x_sI d_MD_comparison_218 rfl (sa_MQ_how (x_mq_ok g_209)) (ha_MQ_how (x_mq_ok g_209)) g_218 ?_
    refine x_iload d_MD_comparison_219 rfl ?_
    refine x_bipush (v := 8) d_MD_comparison_221 (by decide) ?_
    refine x_icmp_ne (tgt := 242) d_MD_comparison_223 (by decide) (fun c_ => ?_) (fun c_ => ?_)
    · replace h := x_ie h c_
      exact b_MD_comparison_242 h
    · replace h := x_it h c_
      refine x_aload_n d_MD_comparison_226 rfl rfl ?_
      obtain ⟨r227, e227, h⟩ := x_bd h
      refine x_cVv (M2 := M_MD_read) (As := []) (st := []) d_MD_comparison_227 w_1240 k_MD_read (c_MD_read e227) rfl sh_MD hp_MD rfl ⟨Nat.le_of_ble_eq_true rfl, Nat.le_of_ble_eq_true rfl⟩ (Nat.le_of_ble_eq_true rfl) (Nat.le_of_ble_eq_true rfl) rfl ?_
      refine x_aload_n d_MD_comparison_230 rfl rfl ?_
      refine x_aload_n d_MD_comparison_231 rfl rfl ?_
      refine x_bipush (v := 18) d_MD_comparison_232 (by decide) ?_
      obtain ⟨r234, e234, h⟩ := x_bd h
      refine x_cVi (M2 := M_MD_isWord) (As := [.int 18]) (st := [.ref 387]) d_MD_comparison_234 w_1327 k_MD_isWord (c_MD_isWord e234) rfl sh_MD hp_MD rfl ⟨Nat.le_of_ble_eq_true rfl, Nat.le_of_ble_eq_true rfl⟩ (Nat.le_of_ble_eq_true rfl) (Nat.le_of_ble_eq_true rfl) rfl ?_
      obtain ⟨r237, e237, h⟩ := x_bd h
      refine x_cVi (M2 := M_MD_must) (As := [.int r234.1]) (st := []) d_MD_comparison_237 w_1331 k_MD_must (c_MD_must e237) rfl sh_MD hp_MD rfl ⟨Nat.le_of_ble_eq_true rfl, Nat.le_of_ble_eq_true rfl⟩ (Nat.le_of_ble_eq_true rfl) (Nat.le_of_ble_eq_true rfl) rfl ?_
      refine x_istore (lv2 := [(0, .ref 387), (3, .int l3), (4, .int l4), (5, .int r237.1)]) d_MD_comparison_240 (by decide) rfl ?_
      refine x_sbk [0, 1, 2] (lv2 := [(0, .ref 387), (3, .int l3), (4, .int l4)]) rfl ?_; exact b_MD_comparison_242 h
  · replace h := x_it h c_
    cases h
    exact x_rv d_MD_comparison_207 rfl
def B_MD_comparison_188   (l3 : Int32) (s0 : Int32) (m : x_m) : Option (x_m) := (if s0 < 0 then B_MD_comparison_201 l3 s0 0 m else B_MD_comparison_201 l3 s0 1 m)
theorem b_MD_comparison_188 {G : x_G} {ex : Bool} {r : x_m}   {l3 : Int32} {s0 : Int32} {m : x_m} (h : B_MD_comparison_188 l3 s0 m = some r) : x_W G M_MD_comparison (x_rd 8) (x_Q G (x_rd 8) ex (x_pv r)) ex x_np (x_hp m) 0 0 [(0, .ref 387), (3, .int l3)] [.int s0] 188 := by
  unfold B_MD_comparison_188 at h
  refine x_istore (lv2 := [(0, .ref 387), (3, .int l3), (4, .int s0)]) d_MD_comparison_188 (by decide) rfl ?_
  refine x_aload_n d_MD_comparison_190 rfl rfl ?_
  refine x_iload d_MD_comparison_191 rfl ?_
  refine x_if_lt (tgt := 200) d_MD_comparison_193 (by decide) (fun c_ => ?_) (fun c_ => ?_)
  · replace h := x_it h c_
    refine x_iconst (v := 0) d_MD_comparison_200 (by decide) ?_
    exact b_MD_comparison_201 h
  · replace h := x_ie h c_
    refine x_iconst (v := 1) d_MD_comparison_196 (by decide) ?_
    refine x_goto (tgt := 201) d_MD_comparison_197 (by decide) ?_
    exact b_MD_comparison_201 h
def B_MD_comparison_28   (l1 : Int32) (l2 : Int32) (s0 : Int32) (m : x_m) : Option (x_m) := ((F_MD_want s0 7 l1 m).bind fun r31 => (if r31.1 = 0 then some r31.2 else (if x_mq (r31.2.2.2.1 387 22) = true then (if x_mq (r31.2.2.2.1 387 22) = true then ((F_MD_columnsLevel l2 r31.2).bind fun r56 => (if x_ix (r31.2.1 (r31.2.2.2.1 387 22) 13) 60 = true then ((F_MD_read (x_wA r56.2 (r31.2.2.2.1 387 22 + 9) (r31.2.1 (r31.2.2.2.1 387 22) 13).toNatClampNeg r56.1)).bind fun r61 => ((F_MD_isSign 61 r61).bind fun r67 => (if r67.1 = 0 then ((F_MD_isSign 15422 r67.2).bind fun r81 => (if r81.1 = 0 then ((F_MD_isSign 60 r81.2).bind fun r94 => (if r94.1 = 0 then ((F_MD_isSign 15421 r94.2).bind fun r108 => (if r108.1 = 0 then ((F_MD_isSign 62 r108.2).bind fun r121 => (if r121.1 = 0 then ((F_MD_isSign 15933 r121.2).bind fun r135 => (if r135.1 = 0 then ((F_MD_isWord 17 r135.2).bind fun r148 => (if r148.1 = 0 then ((F_MD_isWord 18 r148.2).bind fun r162 => (if r162.1 = 0 then ((F_MD_isWord 16 r162.2).bind fun r176 => (if r176.1 = 0 then B_MD_comparison_188 (r31.2.1 (r31.2.2.2.1 387 22) 13) ((-1)) r176.2 else B_MD_comparison_188 (r31.2.1 (r31.2.2.2.1 387 22) 13) 8 r176.2)) else B_MD_comparison_188 (r31.2.1 (r31.2.2.2.1 387 22) 13) 7 r162.2)) else B_MD_comparison_188 (r31.2.1 (r31.2.2.2.1 387 22) 13) 6 r148.2)) else B_MD_comparison_188 (r31.2.1 (r31.2.2.2.1 387 22) 13) 5 r135.2)) else B_MD_comparison_188 (r31.2.1 (r31.2.2.2.1 387 22) 13) 4 r121.2)) else B_MD_comparison_188 (r31.2.1 (r31.2.2.2.1 387 22) 13) 3 r108.2)) else B_MD_comparison_188 (r31.2.1 (r31.2.2.2.1 387 22) 13) 2 r94.2)) else B_MD_comparison_188 (r31.2.1 (r31.2.2.2.1 387 22) 13) 1 r81.2)) else B_MD_comparison_188 (r31.2.1 (r31.2.2.2.1 387 22) 13) 0 r67.2))) else none)) else none) else none)))
theorem b_MD_comparison_28 {G : x_G} {ex : Bool} {r : x_m}   {l1 : Int32} {l2 : Int32} {s0 : Int32} {m : x_m} (h : B_MD_comparison_28 l1 l2 s0 m = some r) : x_W G M_MD_comparison (x_rd 8) (x_Q G (x_rd 8) ex (x_pv r)) ex x_np (x_hp m) 0 0 [(0, .ref 387), (1, .int l1), (2, .int l2)] [.int s0, .ref 387] 28 := by
  unfold B_MD_comparison_28 at h
  refine x_bipush (v := 7) d_MD_comparison_28 (by decide) ?_
  refine x_iload_n d_MD_comparison_30 rfl rfl ?_
  obtain ⟨r31, e31, h⟩ := x_bd h
  refine x_cVi (M2 := M_MD_want) (As := [.int s0, .int 7, .int l1]) (st := []) d_MD_comparison_31 w_1315 k_MD_want (c_MD_want e31) rfl sh_MD hp_MD rfl ⟨Nat.le_of_ble_eq_true rfl, Nat.le_of_ble_eq_true rfl⟩ (Nat.le_of_ble_eq_true rfl) (Nat.le_of_ble_eq_true rfl) rfl ?_
  refine x_if_ne (tgt := 38) d_MD_comparison_34 (by decide) (fun c_ => ?_) (fun c_ => ?_)
  · replace h := x_ie h c_
    refine x_aload_n d_MD_comparison_38 rfl rfl ?_
    refine x_gR d_MD_comparison_39 (f_MD_50 rfl) sh_MD hp_MD rfl ?_
    obtain ⟨g_39, h⟩ := x_gd h
    refine x_gIN d_MD_comparison_42 (f_MD_217 rfl) (sh_MQ (x_mq_ok g_39)) (hp_MQ (x_mq_ok g_39)) rfl ?_
    refine x_istore_n (lv2 := [(0, .ref 387), (1, .int l1), (2, .int l2), (3, .int (r31.2.1 (r31.2.2.2.1 387 22) 13))]) d_MD_comparison_45 rfl (by decide) rfl ?_
    refine x_aload_n d_MD_comparison_46 rfl rfl ?_
    refine x_gR d_MD_comparison_47 (f_MD_50 rfl) sh_MD hp_MD rfl ?_
    obtain ⟨g_47, h⟩ := x_gd h
    refine x_gCN d_MD_comparison_50 (f_MD_220 rfl) (sh_MQ (x_mq_ok g_47)) (hp_MQ (x_mq_ok g_47)) rfl ?_
    refine x_iload_n d_MD_comparison_53 rfl rfl ?_
    refine x_aload_n d_MD_comparison_54 rfl rfl ?_
    refine x_iload_n d_MD_comparison_55 rfl rfl ?_
    obtain ⟨r56, e56, h⟩ := x_bd h
    refine x_cVi (M2 := M_MD_columnsLevel) (As := [.int l2]) (st := [.int (r31.2.1 (r31.2.2.2.1 387 22) 13), .ref (r31.2.2.2.1 387 22 + 9)]) d_MD_comparison_56 w_1391 k_MD_columnsLevel (c_MD_columnsLevel e56) rfl sh_MD hp_MD rfl ⟨Nat.le_of_ble_eq_true rfl, Nat.le_of_ble_eq_true rfl⟩ (Nat.le_of_ble_eq_true rfl) (Nat.le_of_ble_eq_true rfl) rfl ?_
    obtain ⟨g_59, h⟩ := x_gd h
    refine x_sI d_MD_comparison_59 rfl (sa_MQ_column (x_mq_ok g_47)) (ha_MQ_column (x_mq_ok g_47)) g_59 ?_
    refine x_aload_n d_MD_comparison_60 rfl rfl ?_
    obtain ⟨r61, e61, h⟩ := x_bd h
    refine x_cVv (M2 := M_MD_read) (As := []) (st := []) d_MD_comparison_61 w_1240 k_MD_read (c_MD_read e61) rfl sh_MD hp_MD rfl ⟨Nat.le_of_ble_eq_true rfl, Nat.le_of_ble_eq_true rfl⟩ (Nat.le_of_ble_eq_true rfl) (Nat.le_of_ble_eq_true rfl) rfl ?_
    refine x_aload_n d_MD_comparison_64 rfl rfl ?_
    refine x_bipush (v := 61) d_MD_comparison_65 (by decide) ?_
    obtain ⟨r67, e67, h⟩ := x_bd h
    refine x_cVi (M2 := M_MD_isSign) (As := [.int 61]) (st := []) d_MD_comparison_67 w_1363 k_MD_isSign (c_MD_isSign e67) rfl sh_MD hp_MD rfl ⟨Nat.le_of_ble_eq_true rfl, Nat.le_of_ble_eq_true rfl⟩ (Nat.le_of_ble_eq_true rfl) (Nat.le_of_ble_eq_true rfl) rfl ?_
    refine x_if_eq (tgt := 77) d_MD_comparison_70 (by decide) (fun c_ => ?_) (fun c_ => ?_)
    · replace h := x_it h c_
      refine x_aload_n d_MD_comparison_77 rfl rfl ?_
      refine x_sipush (v := 15422) d_MD_comparison_78 (by decide) ?_
      obtain ⟨r81, e81, h⟩ := x_bd h
      refine x_cVi (M2 := M_MD_isSign) (As := [.int 15422]) (st := []) d_MD_comparison_81 w_1363 k_MD_isSign (c_MD_isSign e81) rfl sh_MD hp_MD rfl ⟨Nat.le_of_ble_eq_true rfl, Nat.le_of_ble_eq_true rfl⟩ (Nat.le_of_ble_eq_true rfl) (Nat.le_of_ble_eq_true rfl) rfl ?_
      refine x_if_eq (tgt := 91) d_MD_comparison_84 (by decide) (fun c_ => ?_) (fun c_ => ?_)
      · replace h := x_it h c_
        refine x_aload_n d_MD_comparison_91 rfl rfl ?_
        refine x_bipush (v := 60) d_MD_comparison_92 (by decide) ?_
        obtain ⟨r94, e94, h⟩ := x_bd h
        refine x_cVi (M2 := M_MD_isSign) (As := [.int 60]) (st := []) d_MD_comparison_94 w_1363 k_MD_isSign (c_MD_isSign e94) rfl sh_MD hp_MD rfl ⟨Nat.le_of_ble_eq_true rfl, Nat.le_of_ble_eq_true rfl⟩ (Nat.le_of_ble_eq_true rfl) (Nat.le_of_ble_eq_true rfl) rfl ?_
        refine x_if_eq (tgt := 104) d_MD_comparison_97 (by decide) (fun c_ => ?_) (fun c_ => ?_)
        · replace h := x_it h c_
          refine x_aload_n d_MD_comparison_104 rfl rfl ?_
          refine x_sipush (v := 15421) d_MD_comparison_105 (by decide) ?_
          obtain ⟨r108, e108, h⟩ := x_bd h
          refine x_cVi (M2 := M_MD_isSign) (As := [.int 15421]) (st := []) d_MD_comparison_108 w_1363 k_MD_isSign (c_MD_isSign e108) rfl sh_MD hp_MD rfl ⟨Nat.le_of_ble_eq_true rfl, Nat.le_of_ble_eq_true rfl⟩ (Nat.le_of_ble_eq_true rfl) (Nat.le_of_ble_eq_true rfl) rfl ?_
          refine x_if_eq (tgt := 118) d_MD_comparison_111 (by decide) (fun c_ => ?_) (fun c_ => ?_)
          · replace h := x_it h c_
            refine x_aload_n d_MD_comparison_118 rfl rfl ?_
            refine x_bipush (v := 62) d_MD_comparison_119 (by decide) ?_
            obtain ⟨r121, e121, h⟩ := x_bd h
            refine x_cVi (M2 := M_MD_isSign) (As := [.int 62]) (st := []) d_MD_comparison_121 w_1363 k_MD_isSign (c_MD_isSign e121) rfl sh_MD hp_MD rfl ⟨Nat.le_of_ble_eq_true rfl, Nat.le_of_ble_eq_true rfl⟩ (Nat.le_of_ble_eq_true rfl) (Nat.le_of_ble_eq_true rfl) rfl ?_
            refine x_if_eq (tgt := 131) d_MD_comparison_124 (by decide) (fun c_ => ?_) (fun c_ => ?_)
            · replace h := x_it h c_
              refine x_aload_n d_MD_comparison_131 rfl rfl ?_
              refine x_sipush (v := 15933) d_MD_comparison_132 (by decide) ?_
              obtain ⟨r135, e135, h⟩ := x_bd h
              refine x_cVi (M2 := M_MD_isSign) (As := [.int 15933]) (st := []) d_MD_comparison_135 w_1363 k_MD_isSign (c_MD_isSign e135) rfl sh_MD hp_MD rfl ⟨Nat.le_of_ble_eq_true rfl, Nat.le_of_ble_eq_true rfl⟩ (Nat.le_of_ble_eq_true rfl) (Nat.le_of_ble_eq_true rfl) rfl ?_
              refine x_if_eq (tgt := 145) d_MD_comparison_138 (by decide) (fun c_ => ?_) (fun c_ => ?_)
              · replace h := x_it h c_
                refine x_aload_n d_MD_comparison_145 rfl rfl ?_
                refine x_bipush (v := 17) d_MD_comparison_146 (by decide) ?_
                obtain ⟨r148, e148, h⟩ := x_bd h
                refine x_cVi (M2 := M_MD_isWord) (As := [.int 17]) (st := []) d_MD_comparison_148 w_1327 k_MD_isWord (c_MD_isWord e148) rfl sh_MD hp_MD rfl ⟨Nat.le_of_ble_eq_true rfl, Nat.le_of_ble_eq_true rfl⟩ (Nat.le_of_ble_eq_true rfl) (Nat.le_of_ble_eq_true rfl) rfl ?_
                refine x_if_eq (tgt := 159) d_MD_comparison_151 (by decide) (fun c_ => ?_) (fun c_ => ?_)
                · replace h := x_it h c_
                  refine x_aload_n d_MD_comparison_159 rfl rfl ?_
                  refine x_bipush (v := 18) d_MD_comparison_160 (by decide) ?_
                  obtain ⟨r162, e162, h⟩ := x_bd h
                  refine x_cVi (M2 := M_MD_isWord) (As := [.int 18]) (st := []) d_MD_comparison_162 w_1327 k_MD_isWord (c_MD_isWord e162) rfl sh_MD hp_MD rfl ⟨Nat.le_of_ble_eq_true rfl, Nat.le_of_ble_eq_true rfl⟩ (Nat.le_of_ble_eq_true rfl) (Nat.le_of_ble_eq_true rfl) rfl ?_
                  refine x_if_eq (tgt := 173) d_MD_comparison_165 (by decide) (fun c_ => ?_) (fun c_ => ?_)
                  · replace h := x_it h c_
                    refine x_aload_n d_MD_comparison_173 rfl rfl ?_
                    refine x_bipush (v := 16) d_MD_comparison_174 (by decide) ?_
                    obtain ⟨r176, e176, h⟩ := x_bd h
                    refine x_cVi (M2 := M_MD_isWord) (As := [.int 16]) (st := []) d_MD_comparison_176 w_1327 k_MD_isWord (c_MD_isWord e176) rfl sh_MD hp_MD rfl ⟨Nat.le_of_ble_eq_true rfl, Nat.le_of_ble_eq_true rfl⟩ (Nat.le_of_ble_eq_true rfl) (Nat.le_of_ble_eq_true rfl) rfl ?_
                    refine x_if_eq (tgt := 187) d_MD_comparison_179 (by decide) (fun c_ => ?_) (fun c_ => ?_)
                    · replace h := x_it h c_
                      refine x_iconst (v := (-1)) d_MD_comparison_187 (by decide) ?_
                      refine x_sbk [0, 3] (lv2 := [(0, .ref 387), (3, .int (r31.2.1 (r31.2.2.2.1 387 22) 13))]) rfl ?_; exact b_MD_comparison_188 h
                    · replace h := x_ie h c_
                      refine x_bipush (v := 8) d_MD_comparison_182 (by decide) ?_
                      refine x_goto (tgt := 188) d_MD_comparison_184 (by decide) ?_
                      refine x_sbk [0, 3] (lv2 := [(0, .ref 387), (3, .int (r31.2.1 (r31.2.2.2.1 387 22) 13))]) rfl ?_; exact b_MD_comparison_188 h
                  · replace h := x_ie h c_
                    refine x_bipush (v := 7) d_MD_comparison_168 (by decide) ?_
                    refine x_goto (tgt := 188) d_MD_comparison_170 (by decide) ?_
                    refine x_sbk [0, 3] (lv2 := [(0, .ref 387), (3, .int (r31.2.1 (r31.2.2.2.1 387 22) 13))]) rfl ?_; exact b_MD_comparison_188 h
                · replace h := x_ie h c_
                  refine x_bipush (v := 6) d_MD_comparison_154 (by decide) ?_
                  refine x_goto (tgt := 188) d_MD_comparison_156 (by decide) ?_
                  refine x_sbk [0, 3] (lv2 := [(0, .ref 387), (3, .int (r31.2.1 (r31.2.2.2.1 387 22) 13))]) rfl ?_; exact b_MD_comparison_188 h
              · replace h := x_ie h c_
                refine x_iconst (v := 5) d_MD_comparison_141 (by decide) ?_
                refine x_goto (tgt := 188) d_MD_comparison_142 (by decide) ?_
                refine x_sbk [0, 3] (lv2 := [(0, .ref 387), (3, .int (r31.2.1 (r31.2.2.2.1 387 22) 13))]) rfl ?_; exact b_MD_comparison_188 h
            · replace h := x_ie h c_
              refine x_iconst (v := 4) d_MD_comparison_127 (by decide) ?_
              refine x_goto (tgt := 188) d_MD_comparison_128 (by decide) ?_
              refine x_sbk [0, 3] (lv2 := [(0, .ref 387), (3, .int (r31.2.1 (r31.2.2.2.1 387 22) 13))]) rfl ?_; exact b_MD_comparison_188 h
          · replace h := x_ie h c_
            refine x_iconst (v := 3) d_MD_comparison_114 (by decide) ?_
            refine x_goto (tgt := 188) d_MD_comparison_115 (by decide) ?_
            refine x_sbk [0, 3] (lv2 := [(0, .ref 387), (3, .int (r31.2.1 (r31.2.2.2.1 387 22) 13))]) rfl ?_; exact b_MD_comparison_188 h
        · replace h := x_ie h c_
          refine x_iconst (v := 2) d_MD_comparison_100 (by decide) ?_
          refine x_goto (tgt := 188) d_MD_comparison_101 (by decide) ?_
          refine x_sbk [0, 3] (lv2 := [(0, .ref 387), (3, .int (r31.2.1 (r31.2.2.2.1 387 22) 13))]) rfl ?_; exact b_MD_comparison_188 h
      · replace h := x_ie h c_
        refine x_iconst (v := 1) d_MD_comparison_87 (by decide) ?_
        refine x_goto (tgt := 188) d_MD_comparison_88 (by decide) ?_
        refine x_sbk [0, 3] (lv2 := [(0, .ref 387), (3, .int (r31.2.1 (r31.2.2.2.1 387 22) 13))]) rfl ?_; exact b_MD_comparison_188 h
    · replace h := x_ie h c_
      refine x_iconst (v := 0) d_MD_comparison_73 (by decide) ?_
      refine x_goto (tgt := 188) d_MD_comparison_74 (by decide) ?_
      refine x_sbk [0, 3] (lv2 := [(0, .ref 387), (3, .int (r31.2.1 (r31.2.2.2.1 387 22) 13))]) rfl ?_; exact b_MD_comparison_188 h
  · replace h := x_it h c_
    cases h
    exact x_rv d_MD_comparison_37 rfl
def F_MD_comparison   (m : x_m) : Option (x_m) := ((F_MD_columnsDimension m).bind fun r6 => (if x_mq (r6.2.2.2.1 387 22) = true then (if 60 ≤ (r6.2.1 (r6.2.2.2.1 387 22) 13) then B_MD_comparison_28 (m.1 387 8) r6.1 0 r6.2 else B_MD_comparison_28 (m.1 387 8) r6.1 1 r6.2) else none))
theorem c_MD_comparison {G : x_G} {ex : Bool} {r : x_m}   {m : x_m} (h : F_MD_comparison m = some r) : x_R G M_MD_comparison (x_rd 8) ex [.ref 387] x_np (x_hp m) (x_pv r) := by
  unfold F_MD_comparison at h
  show x_W G M_MD_comparison (x_rd 8) (x_Q G (x_rd 8) ex (x_pv r)) ex x_np (x_hp m) 0 0 [(0, .ref 387)] [] 0
  refine x_aload_n d_MD_comparison_0 rfl rfl ?_
  refine x_gI d_MD_comparison_1 (f_MD_77 rfl) sh_MD hp_MD rfl ?_
  refine x_istore_n (lv2 := [(0, .ref 387), (1, .int (m.1 387 8))]) d_MD_comparison_4 rfl (by decide) rfl ?_
  refine x_aload_n d_MD_comparison_5 rfl rfl ?_
  obtain ⟨r6, e6, h⟩ := x_bd h
  refine x_cVi (M2 := M_MD_columnsDimension) (As := []) (st := []) d_MD_comparison_6 w_1387 k_MD_columnsDimension (c_MD_columnsDimension e6) rfl sh_MD hp_MD rfl ⟨Nat.le_of_ble_eq_true rfl, Nat.le_of_ble_eq_true rfl⟩ (Nat.le_of_ble_eq_true rfl) (Nat.le_of_ble_eq_true rfl) rfl ?_
  refine x_istore_n (lv2 := [(0, .ref 387), (1, .int (m.1 387 8)), (2, .int r6.1)]) d_MD_comparison_9 rfl (by decide) rfl ?_
  refine x_aload_n d_MD_comparison_10 rfl rfl ?_
  refine x_aload_n d_MD_comparison_11 rfl rfl ?_
  refine x_gR d_MD_comparison_12 (f_MD_50 rfl) sh_MD hp_MD rfl ?_
  obtain ⟨g_12, h⟩ := x_gd h
  refine x_gIN d_MD_comparison_15 (f_MD_217 rfl) (sh_MQ (x_mq_ok g_12)) (hp_MQ (x_mq_ok g_12)) rfl ?_
  refine x_bipush (v := 60) d_MD_comparison_18 (by decide) ?_
  refine x_icmp_ge (tgt := 27) d_MD_comparison_20 (by decide) (fun c_ => ?_) (fun c_ => ?_)
  · replace h := x_it h c_
    refine x_iconst (v := 0) d_MD_comparison_27 (by decide) ?_
    exact b_MD_comparison_28 h
  · replace h := x_ie h c_
    refine x_iconst (v := 1) d_MD_comparison_23 (by decide) ?_
    refine x_goto (tgt := 28) d_MD_comparison_24 (by decide) ?_
    exact b_MD_comparison_28 h
def B_MD_single_142  (Ei : x_m → Option x_m)   (m : x_m) : Option (x_m) := some m
theorem b_MD_single_142 {G : x_G} {ex : Bool} {r : x_m}  {e_ : Nat} (he : 20 ≤ e_) {Ei : x_m → Option x_m} (hEi : ∀ (m r : x_m), Ei m = some r → x_R G M_MD_either (x_rd e_) ex [.ref 387] x_np (x_hp m) (x_pv r))   {m : x_m} (h : B_MD_single_142 Ei m = some r) : x_W G M_MD_single (x_rd (e_ + 1)) (x_Q G (x_rd (e_ + 1)) ex (x_pv r)) ex x_np (x_hp m) 0 0 [] [] 142 := by
  unfold B_MD_single_142 at h
  cases h
  exact x_rv d_MD_single_142 rfl
def B_MD_single_133  (Ei : x_m → Option x_m)  (l1 : Int32) (m : x_m) : Option (x_m) := (if l1 = 0 then B_MD_single_142 Ei m else ((F_MD_say ((-1)) m).bind fun r139 => B_MD_single_142 Ei r139))
theorem b_MD_single_133 {G : x_G} {ex : Bool} {r : x_m}  {e_ : Nat} (he : 20 ≤ e_) {Ei : x_m → Option x_m} (hEi : ∀ (m r : x_m), Ei m = some r → x_R G M_MD_either (x_rd e_) ex [.ref 387] x_np (x_hp m) (x_pv r))  {l1 : Int32} {m : x_m} (h : B_MD_single_133 Ei l1 m = some r) : x_W G M_MD_single (x_rd (e_ + 1)) (x_Q G (x_rd (e_ + 1)) ex (x_pv r)) ex x_np (x_hp m) 0 0 [(0, .ref 387), (1, .int l1)] [] 133 := by
  unfold B_MD_single_133 at h
  refine x_iload_n d_MD_single_133 rfl rfl ?_
  refine x_if_eq (tgt := 142) d_MD_single_134 (by decide) (fun c_ => ?_) (fun c_ => ?_)
  · replace h := x_it h c_
    refine x_sbk [] (lv2 := []) rfl ?_; exact b_MD_single_142 he hEi h
  · replace h := x_ie h c_
    refine x_aload_n d_MD_single_137 rfl rfl ?_
    refine x_iconst (v := (-1)) d_MD_single_138 (by decide) ?_
    obtain ⟨r139, e139, h⟩ := x_bd h
    refine x_cVv (M2 := M_MD_say) (As := [.int ((-1))]) (st := []) d_MD_single_139 w_1419 k_MD_say (c_MD_say e139) rfl sh_MD hp_MD rfl (x_rmo (by omega) (Nat.le_of_ble_eq_true rfl)) (Nat.le_of_ble_eq_true rfl) (Nat.le_of_ble_eq_true rfl) rfl ?_
    refine x_sbk [] (lv2 := []) rfl ?_; exact b_MD_single_142 he hEi h
def B_MD_single_129  (Ei : x_m → Option x_m)  (l1 : Int32) (m : x_m) : Option (x_m) := ((F_MD_comparison m).bind fun r130 => B_MD_single_133 Ei l1 r130)
theorem b_MD_single_129 {G : x_G} {ex : Bool} {r : x_m}  {e_ : Nat} (he : 20 ≤ e_) {Ei : x_m → Option x_m} (hEi : ∀ (m r : x_m), Ei m = some r → x_R G M_MD_either (x_rd e_) ex [.ref 387] x_np (x_hp m) (x_pv r))  {l1 : Int32} {m : x_m} (h : B_MD_single_129 Ei l1 m = some r) : x_W G M_MD_single (x_rd (e_ + 1)) (x_Q G (x_rd (e_ + 1)) ex (x_pv r)) ex x_np (x_hp m) 0 0 [(0, .ref 387), (1, .int l1)] [] 129 := by
  unfold B_MD_single_129 at h
  refine x_aload_n d_MD_single_129 rfl rfl ?_
  obtain ⟨r130, e130, h⟩ := x_bd h
  refine x_cVv (M2 := M_MD_comparison) (As := []) (st := []) d_MD_single_130 w_1407 k_MD_comparison (c_MD_comparison e130) rfl sh_MD hp_MD rfl (x_rmo (by omega) (Nat.le_of_ble_eq_true rfl)) (Nat.le_of_ble_eq_true rfl) (Nat.le_of_ble_eq_true rfl) rfl ?_
  exact b_MD_single_133 he hEi h
def B_MD_single_101  (Ei : x_m → Option x_m)  (l1 : Int32) (m : x_m) : Option (x_m) := ((F_MD_isSign 41 m).bind fun r105 => ((F_MD_must r105.1 r105.2).bind fun r108 => ((F_MD_read (x_wS r108.2 387 24 ((r108.2.1 387 24) - 1))).bind fun r123 => B_MD_single_133 Ei l1 r123)))
theorem b_MD_single_101 {G : x_G} {ex : Bool} {r : x_m}  {e_ : Nat} (he : 20 ≤ e_) {Ei : x_m → Option x_m} (hEi : ∀ (m r : x_m), Ei m = some r → x_R G M_MD_either (x_rd e_) ex [.ref 387] x_np (x_hp m) (x_pv r))  {l1 : Int32} {m : x_m} (h : B_MD_single_101 Ei l1 m = some r) : x_W G M_MD_single (x_rd (e_ + 1)) (x_Q G (x_rd (e_ + 1)) ex (x_pv r)) ex x_np (x_hp m) 0 0 [(0, .ref 387), (1, .int l1)] [] 101 := by
  unfold B_MD_single_101 at h
  refine x_aload_n d_MD_single_101 rfl rfl ?_
  refine x_aload_n d_MD_single_102 rfl rfl ?_
  refine x_bipush (v := 41) d_MD_single_103 (by decide) ?_
  obtain ⟨r105, e105, h⟩ := x_bd h
  refine x_cVi (M2 := M_MD_isSign) (As := [.int 41]) (st := [.ref 387]) d_MD_single_105 w_1363 k_MD_isSign (c_MD_isSign e105) rfl sh_MD hp_MD rfl (x_rmo (by omega) (Nat.le_of_ble_eq_true rfl)) (Nat.le_of_ble_eq_true rfl) (Nat.le_of_ble_eq_true rfl) rfl ?_
  obtain ⟨r108, e108, h⟩ := x_bd h
  refine x_cVi (M2 := M_MD_must) (As := [.int r105.1]) (st := []) d_MD_single_108 w_1331 k_MD_must (c_MD_must e108) rfl sh_MD hp_MD rfl (x_rmo (by omega) (Nat.le_of_ble_eq_true rfl)) (Nat.le_of_ble_eq_true rfl) (Nat.le_of_ble_eq_true rfl) rfl ?_
  refine x_istore_n (lv2 := [(0, .ref 387), (1, .int l1), (2, .int r108.1)]) d_MD_single_111 rfl (by decide) rfl ?_
  refine x_aload_n d_MD_single_112 rfl rfl ?_
  refine x_dup d_MD_single_113 rfl ?_
  refine x_gI d_MD_single_114 (f_MD_208 rfl) sh_MD hp_MD rfl ?_
  refine x_iconst (v := 1) d_MD_single_117 (by decide) ?_
  refine x_isub d_MD_single_118 ?_
  refine x_pI d_MD_single_119 (f_MD_208 rfl) tb_MD rfl sh_MD hp_MD rfl ⟨rfl, rfl⟩ ?_
  refine x_aload_n d_MD_single_122 rfl rfl ?_
  obtain ⟨r123, e123, h⟩ := x_bd h
  refine x_cVv (M2 := M_MD_read) (As := []) (st := []) d_MD_single_123 w_1240 k_MD_read (c_MD_read e123) rfl sh_MD hp_MD rfl (x_rmo (by omega) (Nat.le_of_ble_eq_true rfl)) (Nat.le_of_ble_eq_true rfl) (Nat.le_of_ble_eq_true rfl) rfl ?_
  refine x_goto (tgt := 133) d_MD_single_126 (by decide) ?_
  refine x_sbk [0, 1] (lv2 := [(0, .ref 387), (1, .int l1)]) rfl ?_; exact b_MD_single_133 he hEi h
def B_MD_single_76  (Ei : x_m → Option x_m)  (l1 : Int32) (s0 : Int32) (m : x_m) : Option (x_m) := ((F_MD_want s0 7 (m.1 387 8) m).bind fun r82 => ((F_MD_read r82.2).bind fun r87 => (if (r87.1 387 5) = 0 then ((Ei r87).bind fun r98 => B_MD_single_101 Ei l1 r98) else B_MD_single_101 Ei l1 r87)))
theorem b_MD_single_76 {G : x_G} {ex : Bool} {r : x_m}  {e_ : Nat} (he : 20 ≤ e_) {Ei : x_m → Option x_m} (hEi : ∀ (m r : x_m), Ei m = some r → x_R G M_MD_either (x_rd e_) ex [.ref 387] x_np (x_hp m) (x_pv r))  {l1 : Int32} {s0 : Int32} {m : x_m} (h : B_MD_single_76 Ei l1 s0 m = some r) : x_W G M_MD_single (x_rd (e_ + 1)) (x_Q G (x_rd (e_ + 1)) ex (x_pv r)) ex x_np (x_hp m) 0 0 [(0, .ref 387), (1, .int l1)] [.int s0, .ref 387] 76 := by
  unfold B_MD_single_76 at h
  refine x_bipush (v := 7) d_MD_single_76 (by decide) ?_
  refine x_aload_n d_MD_single_78 rfl rfl ?_
  refine x_gI d_MD_single_79 (f_MD_77 rfl) sh_MD hp_MD rfl ?_
  obtain ⟨r82, e82, h⟩ := x_bd h
  refine x_cVi (M2 := M_MD_want) (As := [.int s0, .int 7, .int (m.1 387 8)]) (st := []) d_MD_single_82 w_1315 k_MD_want (c_MD_want e82) rfl sh_MD hp_MD rfl (x_rmo (by omega) (Nat.le_of_ble_eq_true rfl)) (Nat.le_of_ble_eq_true rfl) (Nat.le_of_ble_eq_true rfl) rfl ?_
  refine x_istore_n (lv2 := [(0, .ref 387), (1, .int l1), (2, .int r82.1)]) d_MD_single_85 rfl (by decide) rfl ?_
  refine x_aload_n d_MD_single_86 rfl rfl ?_
  obtain ⟨r87, e87, h⟩ := x_bd h
  refine x_cVv (M2 := M_MD_read) (As := []) (st := []) d_MD_single_87 w_1240 k_MD_read (c_MD_read e87) rfl sh_MD hp_MD rfl (x_rmo (by omega) (Nat.le_of_ble_eq_true rfl)) (Nat.le_of_ble_eq_true rfl) (Nat.le_of_ble_eq_true rfl) rfl ?_
  refine x_aload_n d_MD_single_90 rfl rfl ?_
  refine x_gI d_MD_single_91 (f_MD_67 rfl) sh_MD hp_MD rfl ?_
  refine x_if_ne (tgt := 101) d_MD_single_94 (by decide) (fun c_ => ?_) (fun c_ => ?_)
  · replace h := x_ie h c_
    refine x_sbk [0, 1] (lv2 := [(0, .ref 387), (1, .int l1)]) rfl ?_; exact b_MD_single_101 he hEi h
  · replace h := x_it h c_
    refine x_aload_n d_MD_single_97 rfl rfl ?_
    obtain ⟨r98, e98, h⟩ := x_bd h
    refine x_cVv (M2 := M_MD_either) (As := []) (st := []) d_MD_single_98 w_1395 k_MD_either (hEi _ _ e98) rfl sh_MD hp_MD rfl (x_rmo (by omega) (Nat.le_of_ble_eq_true rfl)) (Nat.le_of_ble_eq_true rfl) (Nat.le_of_ble_eq_true rfl) rfl ?_
    refine x_sbk [0, 1] (lv2 := [(0, .ref 387), (1, .int l1)]) rfl ?_; exact b_MD_single_101 he hEi h
def B_MD_single_35  (Ei : x_m → Option x_m)  (l1 : Int32) (m : x_m) : Option (x_m) := (if (m.1 387 5) = 0 then ((F_MD_isSign 40 m).bind fun r45 => (if r45.1 = 0 then B_MD_single_129 Ei l1 r45.2 else (if 40 < ((x_wS r45.2 387 24 ((r45.2.1 387 24) + 1)).1 387 24) then B_MD_single_76 Ei l1 0 (x_wS r45.2 387 24 ((r45.2.1 387 24) + 1)) else B_MD_single_76 Ei l1 1 (x_wS r45.2 387 24 ((r45.2.1 387 24) + 1))))) else B_MD_single_129 Ei l1 m)
theorem b_MD_single_35 {G : x_G} {ex : Bool} {r : x_m}  {e_ : Nat} (he : 20 ≤ e_) {Ei : x_m → Option x_m} (hEi : ∀ (m r : x_m), Ei m = some r → x_R G M_MD_either (x_rd e_) ex [.ref 387] x_np (x_hp m) (x_pv r))  {l1 : Int32} {m : x_m} (h : B_MD_single_35 Ei l1 m = some r) : x_W G M_MD_single (x_rd (e_ + 1)) (x_Q G (x_rd (e_ + 1)) ex (x_pv r)) ex x_np (x_hp m) 0 0 [(0, .ref 387), (1, .int l1)] [] 35 := by
  unfold B_MD_single_35 at h
  refine x_aload_n d_MD_single_35 rfl rfl ?_
  refine x_gI d_MD_single_36 (f_MD_67 rfl) sh_MD hp_MD rfl ?_
  refine x_if_ne (tgt := 129) d_MD_single_39 (by decide) (fun c_ => ?_) (fun c_ => ?_)
  · replace h := x_ie h c_
    exact b_MD_single_129 he hEi h
  · replace h := x_it h c_
    refine x_aload_n d_MD_single_42 rfl rfl ?_
    refine x_bipush (v := 40) d_MD_single_43 (by decide) ?_
    obtain ⟨r45, e45, h⟩ := x_bd h
    refine x_cVi (M2 := M_MD_isSign) (As := [.int 40]) (st := []) d_MD_single_45 w_1363 k_MD_isSign (c_MD_isSign e45) rfl sh_MD hp_MD rfl (x_rmo (by omega) (Nat.le_of_ble_eq_true rfl)) (Nat.le_of_ble_eq_true rfl) (Nat.le_of_ble_eq_true rfl) rfl ?_
    refine x_if_eq (tgt := 129) d_MD_single_48 (by decide) (fun c_ => ?_) (fun c_ => ?_)
    · replace h := x_it h c_
      exact b_MD_single_129 he hEi h
    · replace h := x_ie h c_
      refine x_aload_n d_MD_single_51 rfl rfl ?_
      refine x_dup d_MD_single_52 rfl ?_
      refine x_gI d_MD_single_53 (f_MD_208 rfl) sh_MD hp_MD rfl ?_
      refine x_iconst (v := 1) d_MD_single_56 (by decide) ?_
      refine x_iadd d_MD_single_57 ?_
      refine x_pI d_MD_single_58 (f_MD_208 rfl) tb_MD rfl sh_MD hp_MD rfl ⟨rfl, rfl⟩ ?_
      refine x_aload_n d_MD_single_61 rfl rfl ?_
      refine x_aload_n d_MD_single_62 rfl rfl ?_
      refine x_gI d_MD_single_63 (f_MD_208 rfl) sh_MD hp_MD rfl ?_
      refine x_bipush (v := 40) d_MD_single_66 (by decide) ?_
      refine x_icmp_gt (tgt := 75) d_MD_single_68 (by decide) (fun c_ => ?_) (fun c_ => ?_)
      · replace h := x_it h c_
        refine x_iconst (v := 0) d_MD_single_75 (by decide) ?_
        exact b_MD_single_76 he hEi h
      · replace h := x_ie h c_
        refine x_iconst (v := 1) d_MD_single_71 (by decide) ?_
        refine x_goto (tgt := 76) d_MD_single_72 (by decide) ?_
        exact b_MD_single_76 he hEi h
def B_MD_single_27  (Ei : x_m → Option x_m) (K2 : Int32 → x_m → Option (x_m)) (s0 : Int32) (m : x_m) : Option (x_m) := ((F_MD_read m).bind fun r29 => K2 s0 r29)
theorem b_MD_single_27 {G : x_G} {ex : Bool} {r : x_m}  {e_ : Nat} (he : 20 ≤ e_) {Ei : x_m → Option x_m} (hEi : ∀ (m r : x_m), Ei m = some r → x_R G M_MD_either (x_rd e_) ex [.ref 387] x_np (x_hp m) (x_pv r)) {K2 : Int32 → x_m → Option (x_m)} (hK2 : ∀ (l1 : Int32) (m : x_m), K2 l1 m = some r → x_W G M_MD_single (x_rd (e_ + 1)) (x_Q G (x_rd (e_ + 1)) ex (x_pv r)) ex x_np (x_hp m) 0 0 [(0, .ref 387), (1, .int l1)] [] 2) {s0 : Int32} {m : x_m} (h : B_MD_single_27 Ei K2 s0 m = some r) : x_W G M_MD_single (x_rd (e_ + 1)) (x_Q G (x_rd (e_ + 1)) ex (x_pv r)) ex x_np (x_hp m) 0 0 [(0, .ref 387)] [.int s0] 27 := by
  unfold B_MD_single_27 at h
  refine x_istore_n (lv2 := [(0, .ref 387), (1, .int s0)]) d_MD_single_27 rfl (by decide) rfl ?_
  refine x_aload_n d_MD_single_28 rfl rfl ?_
  obtain ⟨r29, e29, h⟩ := x_bd h
  refine x_cVv (M2 := M_MD_read) (As := []) (st := []) d_MD_single_29 w_1240 k_MD_read (c_MD_read e29) rfl sh_MD hp_MD rfl (x_rmo (by omega) (Nat.le_of_ble_eq_true rfl)) (Nat.le_of_ble_eq_true rfl) (Nat.le_of_ble_eq_true rfl) rfl ?_
  refine x_goto (tgt := 2) d_MD_single_32 (by decide) ?_
  exact hK2 _ _ h
def B_MD_single_2  (Ei : x_m → Option x_m)  : Nat → Int32 → x_m → Option (x_m)
  | 0, _, _ => none
  | f_ + 1, l1, m => (if (m.1 387 5) = 0 then ((F_MD_isWord 16 m).bind fun r12 => (if r12.1 = 0 then B_MD_single_35 Ei l1 r12.2 else (if l1 = 0 then B_MD_single_27 Ei (B_MD_single_2 Ei f_) 1 r12.2 else B_MD_single_27 Ei (B_MD_single_2 Ei f_) 0 r12.2))) else B_MD_single_35 Ei l1 m)
theorem b_MD_single_2 {G : x_G} {ex : Bool} {r : x_m}  {e_ : Nat} (he : 20 ≤ e_) {Ei : x_m → Option x_m} (hEi : ∀ (m r : x_m), Ei m = some r → x_R G M_MD_either (x_rd e_) ex [.ref 387] x_np (x_hp m) (x_pv r))  : ∀ (f_ : Nat) (l1 : Int32) (m : x_m), B_MD_single_2 Ei f_ l1 m = some r → x_W G M_MD_single (x_rd (e_ + 1)) (x_Q G (x_rd (e_ + 1)) ex (x_pv r)) ex x_np (x_hp m) 0 0 [(0, .ref 387), (1, .int l1)] [] 2 := by
  intro f_
  induction f_ with
  | zero => intro l1 m h; exact nomatch h
  | succ f_ ih =>
    intro l1 m h
    rw [B_MD_single_2] at h
    have hK2 := ih
    refine x_aload_n d_MD_single_2 rfl rfl ?_
    refine x_gI d_MD_single_3 (f_MD_67 rfl) sh_MD hp_MD rfl ?_
    refine x_if_ne (tgt := 35) d_MD_single_6 (by decide) (fun c_ => ?_) (fun c_ => ?_)
    · replace h := x_ie h c_
      exact b_MD_single_35 he hEi h
    · replace h := x_it h c_
      refine x_aload_n d_MD_single_9 rfl rfl ?_
      refine x_bipush (v := 16) d_MD_single_10 (by decide) ?_
      obtain ⟨r12, e12, h⟩ := x_bd h
      refine x_cVi (M2 := M_MD_isWord) (As := [.int 16]) (st := []) d_MD_single_12 w_1327 k_MD_isWord (c_MD_isWord e12) rfl sh_MD hp_MD rfl (x_rmo (by omega) (Nat.le_of_ble_eq_true rfl)) (Nat.le_of_ble_eq_true rfl) (Nat.le_of_ble_eq_true rfl) rfl ?_
      refine x_if_eq (tgt := 35) d_MD_single_15 (by decide) (fun c_ => ?_) (fun c_ => ?_)
      · replace h := x_it h c_
        exact b_MD_single_35 he hEi h
      · replace h := x_ie h c_
        refine x_iload_n d_MD_single_18 rfl rfl ?_
        refine x_if_ne (tgt := 26) d_MD_single_19 (by decide) (fun c_ => ?_) (fun c_ => ?_)
        · replace h := x_ie h c_
          refine x_iconst (v := 0) d_MD_single_26 (by decide) ?_
          refine x_sbk [0] (lv2 := [(0, .ref 387)]) rfl ?_; exact b_MD_single_27 he hEi hK2 h
        · replace h := x_it h c_
          refine x_iconst (v := 1) d_MD_single_22 (by decide) ?_
          refine x_goto (tgt := 27) d_MD_single_23 (by decide) ?_
          refine x_sbk [0] (lv2 := [(0, .ref 387)]) rfl ?_; exact b_MD_single_27 he hEi hK2 h
def F_MD_single  (Ei : x_m → Option x_m)  (m : x_m) : Option (x_m) := B_MD_single_2 Ei x_fu 0 m
theorem c_MD_single {G : x_G} {ex : Bool} {r : x_m}  {e_ : Nat} (he : 20 ≤ e_) {Ei : x_m → Option x_m} (hEi : ∀ (m r : x_m), Ei m = some r → x_R G M_MD_either (x_rd e_) ex [.ref 387] x_np (x_hp m) (x_pv r))  {m : x_m} (h : F_MD_single Ei m = some r) : x_R G M_MD_single (x_rd (e_ + 1)) ex [.ref 387] x_np (x_hp m) (x_pv r) := by
  unfold F_MD_single at h
  show x_W G M_MD_single (x_rd (e_ + 1)) (x_Q G (x_rd (e_ + 1)) ex (x_pv r)) ex x_np (x_hp m) 0 0 [(0, .ref 387)] [] 0
  refine x_iconst (v := 0) d_MD_single_0 (by decide) ?_
  refine x_istore_n (lv2 := [(0, .ref 387), (1, .int 0)]) d_MD_single_1 rfl (by decide) rfl ?_
  exact b_MD_single_2 he hEi _ _ _ h
def B_MD_both_37  (Ei : x_m → Option x_m)   (m : x_m) : Option (x_m) := some m
theorem b_MD_both_37 {G : x_G} {ex : Bool} {r : x_m}  {e_ : Nat} (he : 20 ≤ e_) {Ei : x_m → Option x_m} (hEi : ∀ (m r : x_m), Ei m = some r → x_R G M_MD_either (x_rd e_) ex [.ref 387] x_np (x_hp m) (x_pv r))   {m : x_m} (h : B_MD_both_37 Ei m = some r) : x_W G M_MD_both (x_rd (e_ + 2)) (x_Q G (x_rd (e_ + 2)) ex (x_pv r)) ex x_np (x_hp m) 0 0 [] [] 37 := by
  unfold B_MD_both_37 at h
  cases h
  exact x_rv d_MD_both_37 rfl
def B_MD_both_4  (Ei : x_m → Option x_m)  : Nat → x_m → Option (x_m)
  | 0, _ => none
  | f_ + 1, m => (if (m.1 387 5) = 0 then ((F_MD_isWord 14 m).bind fun r14 => (if r14.1 = 0 then B_MD_both_37 Ei r14.2 else ((F_MD_read r14.2).bind fun r21 => ((F_MD_single Ei r21).bind fun r25 => ((F_MD_say ((-2)) r25).bind fun r31 => (B_MD_both_4 Ei f_) r31))))) else B_MD_both_37 Ei m)
theorem b_MD_both_4 {G : x_G} {ex : Bool} {r : x_m}  {e_ : Nat} (he : 20 ≤ e_) {Ei : x_m → Option x_m} (hEi : ∀ (m r : x_m), Ei m = some r → x_R G M_MD_either (x_rd e_) ex [.ref 387] x_np (x_hp m) (x_pv r))  : ∀ (f_ : Nat)  (m : x_m), B_MD_both_4 Ei f_ m = some r → x_W G M_MD_both (x_rd (e_ + 2)) (x_Q G (x_rd (e_ + 2)) ex (x_pv r)) ex x_np (x_hp m) 0 0 [(0, .ref 387)] [] 4 := by
  intro f_
  induction f_ with
  | zero => intro m h; exact nomatch h
  | succ f_ ih =>
    intro m h
    rw [B_MD_both_4] at h
    have hK4 := ih
    refine x_aload_n d_MD_both_4 rfl rfl ?_
    refine x_gI d_MD_both_5 (f_MD_67 rfl) sh_MD hp_MD rfl ?_
    refine x_if_ne (tgt := 37) d_MD_both_8 (by decide) (fun c_ => ?_) (fun c_ => ?_)
    · replace h := x_ie h c_
      refine x_sbk [] (lv2 := []) rfl ?_; exact b_MD_both_37 he hEi h
    · replace h := x_it h c_
      refine x_aload_n d_MD_both_11 rfl rfl ?_
      refine x_bipush (v := 14) d_MD_both_12 (by decide) ?_
      obtain ⟨r14, e14, h⟩ := x_bd h
      refine x_cVi (M2 := M_MD_isWord) (As := [.int 14]) (st := []) d_MD_both_14 w_1327 k_MD_isWord (c_MD_isWord e14) rfl sh_MD hp_MD rfl (x_rmo (by omega) (Nat.le_of_ble_eq_true rfl)) (Nat.le_of_ble_eq_true rfl) (Nat.le_of_ble_eq_true rfl) rfl ?_
      refine x_if_eq (tgt := 37) d_MD_both_17 (by decide) (fun c_ => ?_) (fun c_ => ?_)
      · replace h := x_it h c_
        refine x_sbk [] (lv2 := []) rfl ?_; exact b_MD_both_37 he hEi h
      · replace h := x_ie h c_
        refine x_aload_n d_MD_both_20 rfl rfl ?_
        obtain ⟨r21, e21, h⟩ := x_bd h
        refine x_cVv (M2 := M_MD_read) (As := []) (st := []) d_MD_both_21 w_1240 k_MD_read (c_MD_read e21) rfl sh_MD hp_MD rfl (x_rmo (by omega) (Nat.le_of_ble_eq_true rfl)) (Nat.le_of_ble_eq_true rfl) (Nat.le_of_ble_eq_true rfl) rfl ?_
        refine x_aload_n d_MD_both_24 rfl rfl ?_
        obtain ⟨r25, e25, h⟩ := x_bd h
        refine x_cVv (M2 := M_MD_single) (As := []) (st := []) d_MD_both_25 w_1403 k_MD_single (c_MD_single he hEi e25) rfl sh_MD hp_MD rfl (x_rmo (by omega) (Nat.le_of_ble_eq_true rfl)) (Nat.le_of_ble_eq_true rfl) (Nat.le_of_ble_eq_true rfl) rfl ?_
        refine x_aload_n d_MD_both_28 rfl rfl ?_
        refine x_bipush (v := (-2)) d_MD_both_29 (by decide) ?_
        obtain ⟨r31, e31, h⟩ := x_bd h
        refine x_cVv (M2 := M_MD_say) (As := [.int ((-2))]) (st := []) d_MD_both_31 w_1419 k_MD_say (c_MD_say e31) rfl sh_MD hp_MD rfl (x_rmo (by omega) (Nat.le_of_ble_eq_true rfl)) (Nat.le_of_ble_eq_true rfl) (Nat.le_of_ble_eq_true rfl) rfl ?_
        refine x_goto (tgt := 4) d_MD_both_34 (by decide) ?_
        exact hK4 _ h
def F_MD_both  (Ei : x_m → Option x_m)  (m : x_m) : Option (x_m) := ((F_MD_single Ei m).bind fun r1 => B_MD_both_4 Ei x_fu r1)
theorem c_MD_both {G : x_G} {ex : Bool} {r : x_m}  {e_ : Nat} (he : 20 ≤ e_) {Ei : x_m → Option x_m} (hEi : ∀ (m r : x_m), Ei m = some r → x_R G M_MD_either (x_rd e_) ex [.ref 387] x_np (x_hp m) (x_pv r))  {m : x_m} (h : F_MD_both Ei m = some r) : x_R G M_MD_both (x_rd (e_ + 2)) ex [.ref 387] x_np (x_hp m) (x_pv r) := by
  unfold F_MD_both at h
  show x_W G M_MD_both (x_rd (e_ + 2)) (x_Q G (x_rd (e_ + 2)) ex (x_pv r)) ex x_np (x_hp m) 0 0 [(0, .ref 387)] [] 0
  refine x_aload_n d_MD_both_0 rfl rfl ?_
  obtain ⟨r1, e1, h⟩ := x_bd h
  refine x_cVv (M2 := M_MD_single) (As := []) (st := []) d_MD_both_1 w_1403 k_MD_single (c_MD_single he hEi e1) rfl sh_MD hp_MD rfl (x_rmo (by omega) (Nat.le_of_ble_eq_true rfl)) (Nat.le_of_ble_eq_true rfl) (Nat.le_of_ble_eq_true rfl) rfl ?_
  exact b_MD_both_4 he hEi _ _ h
def B_MD_either_37  (Ei : x_m → Option x_m)   (m : x_m) : Option (x_m) := some m
theorem b_MD_either_37 {G : x_G} {ex : Bool} {r : x_m}  {e_ : Nat} (he : 20 ≤ e_) {Ei : x_m → Option x_m} (hEi : ∀ (m r : x_m), Ei m = some r → x_R G M_MD_either (x_rd e_) ex [.ref 387] x_np (x_hp m) (x_pv r))   {m : x_m} (h : B_MD_either_37 Ei m = some r) : x_W G M_MD_either (x_rd (e_ + 3)) (x_Q G (x_rd (e_ + 3)) ex (x_pv r)) ex x_np (x_hp m) 0 0 [] [] 37 := by
  unfold B_MD_either_37 at h
  cases h
  exact x_rv d_MD_either_37 rfl
def B_MD_either_4  (Ei : x_m → Option x_m)  : Nat → x_m → Option (x_m)
  | 0, _ => none
  | f_ + 1, m => (if (m.1 387 5) = 0 then ((F_MD_isWord 15 m).bind fun r14 => (if r14.1 = 0 then B_MD_either_37 Ei r14.2 else ((F_MD_read r14.2).bind fun r21 => ((F_MD_both Ei r21).bind fun r25 => ((F_MD_say ((-3)) r25).bind fun r31 => (B_MD_either_4 Ei f_) r31))))) else B_MD_either_37 Ei m)
theorem b_MD_either_4 {G : x_G} {ex : Bool} {r : x_m}  {e_ : Nat} (he : 20 ≤ e_) {Ei : x_m → Option x_m} (hEi : ∀ (m r : x_m), Ei m = some r → x_R G M_MD_either (x_rd e_) ex [.ref 387] x_np (x_hp m) (x_pv r))  : ∀ (f_ : Nat)  (m : x_m), B_MD_either_4 Ei f_ m = some r → x_W G M_MD_either (x_rd (e_ + 3)) (x_Q G (x_rd (e_ + 3)) ex (x_pv r)) ex x_np (x_hp m) 0 0 [(0, .ref 387)] [] 4 := by
  intro f_
  induction f_ with
  | zero => intro m h; exact nomatch h
  | succ f_ ih =>
    intro m h
    rw [B_MD_either_4] at h
    have hK4 := ih
    refine x_aload_n d_MD_either_4 rfl rfl ?_
    refine x_gI d_MD_either_5 (f_MD_67 rfl) sh_MD hp_MD rfl ?_
    refine x_if_ne (tgt := 37) d_MD_either_8 (by decide) (fun c_ => ?_) (fun c_ => ?_)
    · replace h := x_ie h c_
      refine x_sbk [] (lv2 := []) rfl ?_; exact b_MD_either_37 he hEi h
    · replace h := x_it h c_
      refine x_aload_n d_MD_either_11 rfl rfl ?_
      refine x_bipush (v := 15) d_MD_either_12 (by decide) ?_
      obtain ⟨r14, e14, h⟩ := x_bd h
      refine x_cVi (M2 := M_MD_isWord) (As := [.int 15]) (st := []) d_MD_either_14 w_1327 k_MD_isWord (c_MD_isWord e14) rfl sh_MD hp_MD rfl (x_rmo (by omega) (Nat.le_of_ble_eq_true rfl)) (Nat.le_of_ble_eq_true rfl) (Nat.le_of_ble_eq_true rfl) rfl ?_
      refine x_if_eq (tgt := 37) d_MD_either_17 (by decide) (fun c_ => ?_) (fun c_ => ?_)
      · replace h := x_it h c_
        refine x_sbk [] (lv2 := []) rfl ?_; exact b_MD_either_37 he hEi h
      · replace h := x_ie h c_
        refine x_aload_n d_MD_either_20 rfl rfl ?_
        obtain ⟨r21, e21, h⟩ := x_bd h
        refine x_cVv (M2 := M_MD_read) (As := []) (st := []) d_MD_either_21 w_1240 k_MD_read (c_MD_read e21) rfl sh_MD hp_MD rfl (x_rmo (by omega) (Nat.le_of_ble_eq_true rfl)) (Nat.le_of_ble_eq_true rfl) (Nat.le_of_ble_eq_true rfl) rfl ?_
        refine x_aload_n d_MD_either_24 rfl rfl ?_
        obtain ⟨r25, e25, h⟩ := x_bd h
        refine x_cVv (M2 := M_MD_both) (As := []) (st := []) d_MD_either_25 w_1399 k_MD_both (c_MD_both he hEi e25) rfl sh_MD hp_MD rfl (x_rmo (by omega) (Nat.le_of_ble_eq_true rfl)) (Nat.le_of_ble_eq_true rfl) (Nat.le_of_ble_eq_true rfl) rfl ?_
        refine x_aload_n d_MD_either_28 rfl rfl ?_
        refine x_bipush (v := (-3)) d_MD_either_29 (by decide) ?_
        obtain ⟨r31, e31, h⟩ := x_bd h
        refine x_cVv (M2 := M_MD_say) (As := [.int ((-3))]) (st := []) d_MD_either_31 w_1419 k_MD_say (c_MD_say e31) rfl sh_MD hp_MD rfl (x_rmo (by omega) (Nat.le_of_ble_eq_true rfl)) (Nat.le_of_ble_eq_true rfl) (Nat.le_of_ble_eq_true rfl) rfl ?_
        refine x_goto (tgt := 4) d_MD_either_34 (by decide) ?_
        exact hK4 _ h
def F_MD_eitherB  (Ei : x_m → Option x_m)  (m : x_m) : Option (x_m) := ((F_MD_both Ei m).bind fun r1 => B_MD_either_4 Ei x_fu r1)
theorem c_MD_eitherB {G : x_G} {ex : Bool} {r : x_m}  {e_ : Nat} (he : 20 ≤ e_) {Ei : x_m → Option x_m} (hEi : ∀ (m r : x_m), Ei m = some r → x_R G M_MD_either (x_rd e_) ex [.ref 387] x_np (x_hp m) (x_pv r))  {m : x_m} (h : F_MD_eitherB Ei m = some r) : x_R G M_MD_either (x_rd (e_ + 3)) ex [.ref 387] x_np (x_hp m) (x_pv r) := by
  unfold F_MD_eitherB at h
  show x_W G M_MD_either (x_rd (e_ + 3)) (x_Q G (x_rd (e_ + 3)) ex (x_pv r)) ex x_np (x_hp m) 0 0 [(0, .ref 387)] [] 0
  refine x_aload_n d_MD_either_0 rfl rfl ?_
  obtain ⟨r1, e1, h⟩ := x_bd h
  refine x_cVv (M2 := M_MD_both) (As := []) (st := []) d_MD_either_1 w_1399 k_MD_both (c_MD_both he hEi e1) rfl sh_MD hp_MD rfl (x_rmo (by omega) (Nat.le_of_ble_eq_true rfl)) (Nat.le_of_ble_eq_true rfl) (Nat.le_of_ble_eq_true rfl) rfl ?_
  exact b_MD_either_4 he hEi _ _ h
def F_MD_either : Nat → x_m → Option x_m
  | 0, _ => none
  | k + 1, m => F_MD_eitherB (F_MD_either k) m
theorem c_MD_either {G : x_G} {ex : Bool} : ∀ (k : Nat) {m r : x_m}, F_MD_either k m = some r → x_R G M_MD_either (x_rd (20 + 3 * k)) ex [.ref 387] x_np (x_hp m) (x_pv r) := by
  intro k
  induction k with
  | zero => intro m r h; exact nomatch h
  | succ k ih =>
    intro m r h
    exact c_MD_eitherB (e_ := 20 + 3 * k) (by omega) (fun m r h => ih h) h
def B_MD_groupColumn_143    (m : x_m) : Option (x_m) := some m
theorem b_MD_groupColumn_143 {G : x_G} {ex : Bool} {r : x_m}    {m : x_m} (h : B_MD_groupColumn_143 m = some r) : x_W G M_MD_groupColumn (x_rd 8) (x_Q G (x_rd 8) ex (x_pv r)) ex x_np (x_hp m) 0 0 [] [] 143 := by
  unfold B_MD_groupColumn_143 at h
  cases h
  exact x_rv d_MD_groupColumn_143 rfl
def B_MD_groupColumn_105   (l1 : Int32) (l3 : Int32) (s0 : Int32) (m : x_m) : Option (x_m) := ((F_MD_want s0 10 l1 m).bind fun r108 => (if r108.1 = 0 then B_MD_groupColumn_143 r108.2 else (if x_mq (r108.2.2.2.1 387 22) = true then (if x_mq (r108.2.2.2.1 387 22) = true then (if x_ix (r108.2.1 (r108.2.2.2.1 387 22) 4) 8 = true then (if x_mq ((x_wA r108.2 (r108.2.2.2.1 387 22 + 4) (r108.2.1 (r108.2.2.2.1 387 22) 4).toNatClampNeg l3).2.2.1 387 22) = true then B_MD_groupColumn_143 (x_wS (x_wA r108.2 (r108.2.2.2.1 387 22 + 4) (r108.2.1 (r108.2.2.2.1 387 22) 4).toNatClampNeg l3) ((x_wA r108.2 (r108.2.2.2.1 387 22 + 4) (r108.2.1 (r108.2.2.2.1 387 22) 4).toNatClampNeg l3).2.2.1 387 22) 4 (((x_wA r108.2 (r108.2.2.2.1 387 22 + 4) (r108.2.1 (r108.2.2.2.1 387 22) 4).toNatClampNeg l3).1 ((x_wA r108.2 (r108.2.2.2.1 387 22 + 4) (r108.2.1 (r108.2.2.2.1 387 22) 4).toNatClampNeg l3).2.2.1 387 22) 4) + 1)) else none) else none) else none) else none)))
theorem b_MD_groupColumn_105 {G : x_G} {ex : Bool} {r : x_m}   {l1 : Int32} {l3 : Int32} {s0 : Int32} {m : x_m} (h : B_MD_groupColumn_105 l1 l3 s0 m = some r) : x_W G M_MD_groupColumn (x_rd 8) (x_Q G (x_rd 8) ex (x_pv r)) ex x_np (x_hp m) 0 0 [(0, .ref 387), (1, .int l1), (3, .int l3)] [.int s0, .ref 387] 105 := by
  unfold B_MD_groupColumn_105 at h
  refine x_bipush (v := 10) d_MD_groupColumn_105 (by decide) ?_
  refine x_iload_n d_MD_groupColumn_107 rfl rfl ?_
  obtain ⟨r108, e108, h⟩ := x_bd h
  refine x_cVi (M2 := M_MD_want) (As := [.int s0, .int 10, .int l1]) (st := []) d_MD_groupColumn_108 w_1315 k_MD_want (c_MD_want e108) rfl sh_MD hp_MD rfl ⟨Nat.le_of_ble_eq_true rfl, Nat.le_of_ble_eq_true rfl⟩ (Nat.le_of_ble_eq_true rfl) (Nat.le_of_ble_eq_true rfl) rfl ?_
  refine x_if_eq (tgt := 143) d_MD_groupColumn_111 (by decide) (fun c_ => ?_) (fun c_ => ?_)
  · replace h := x_it h c_
    refine x_sbk [] (lv2 := []) rfl ?_; exact b_MD_groupColumn_143 h
  · replace h := x_ie h c_
    refine x_aload_n d_MD_groupColumn_114 rfl rfl ?_
    refine x_gR d_MD_groupColumn_115 (f_MD_50 rfl) sh_MD hp_MD rfl ?_
    obtain ⟨g_115, h⟩ := x_gd h
    refine x_gCN d_MD_groupColumn_118 (f_MD_243 rfl) (sh_MQ (x_mq_ok g_115)) (hp_MQ (x_mq_ok g_115)) rfl ?_
    refine x_aload_n d_MD_groupColumn_121 rfl rfl ?_
    refine x_gR d_MD_groupColumn_122 (f_MD_50 rfl) sh_MD hp_MD rfl ?_
    obtain ⟨g_122, h⟩ := x_gd h
    refine x_gIN d_MD_groupColumn_125 (f_MD_240 rfl) (sh_MQ (x_mq_ok g_122)) (hp_MQ (x_mq_ok g_122)) rfl ?_
    refine x_iload_n d_MD_groupColumn_128 rfl rfl ?_
    obtain ⟨g_129, h⟩ := x_gd h
    refine x_sI d_MD_groupColumn_129 rfl (sa_MQ_group (x_mq_ok g_115)) (ha_MQ_group (x_mq_ok g_115)) g_129 ?_
    refine x_aload_n d_MD_groupColumn_130 rfl rfl ?_
    refine x_gR d_MD_groupColumn_131 (f_MD_50 rfl) sh_MD hp_MD rfl ?_
    obtain ⟨g_131, h⟩ := x_gd h
    refine x_dup d_MD_groupColumn_134 rfl ?_
    refine x_gIN d_MD_groupColumn_135 (f_MD_240 rfl) (sh_MQ (x_mq_ok g_131)) (hp_MQ (x_mq_ok g_131)) rfl ?_
    refine x_iconst (v := 1) d_MD_groupColumn_138 (by decide) ?_
    refine x_iadd d_MD_groupColumn_139 ?_
    refine x_pIN d_MD_groupColumn_140 (f_MD_240 rfl) tb_MQ rfl (sh_MQ (x_mq_ok g_131)) (hp_MQ (x_mq_ok g_131)) rfl ⟨rfl, rfl⟩ ?_
    refine x_sbk [] (lv2 := []) rfl ?_; exact b_MD_groupColumn_143 h
def B_MD_groupColumn_86  (K50 : Int32 → Int32 → Int32 → Int32 → x_m → Option (x_m)) (l1 : Int32) (l3 : Int32) (l5 : Int32) (s0 : Int32) (m : x_m) : Option (x_m) := K50 l1 l3 s0 (l5 + 1) m
theorem b_MD_groupColumn_86 {G : x_G} {ex : Bool} {r : x_m}  {K50 : Int32 → Int32 → Int32 → Int32 → x_m → Option (x_m)} (hK50 : ∀ (l1 : Int32) (l3 : Int32) (l4 : Int32) (l5 : Int32) (m : x_m), K50 l1 l3 l4 l5 m = some r → x_W G M_MD_groupColumn (x_rd 8) (x_Q G (x_rd 8) ex (x_pv r)) ex x_np (x_hp m) 0 0 [(0, .ref 387), (1, .int l1), (3, .int l3), (4, .int l4), (5, .int l5)] [] 50) {l1 : Int32} {l3 : Int32} {l5 : Int32} {s0 : Int32} {m : x_m} (h : B_MD_groupColumn_86 K50 l1 l3 l5 s0 m = some r) : x_W G M_MD_groupColumn (x_rd 8) (x_Q G (x_rd 8) ex (x_pv r)) ex x_np (x_hp m) 0 0 [(0, .ref 387), (1, .int l1), (3, .int l3), (5, .int l5)] [.int s0] 86 := by
  unfold B_MD_groupColumn_86 at h
  refine x_istore (lv2 := [(0, .ref 387), (1, .int l1), (3, .int l3), (4, .int s0), (5, .int l5)]) d_MD_groupColumn_86 (by decide) rfl ?_
  refine x_iinc (v := l5 + 1) (lv2 := [(0, .ref 387), (1, .int l1), (3, .int l3), (4, .int s0), (5, .int (l5 + 1))]) d_MD_groupColumn_88 rfl rfl (by decide) rfl ?_
  refine x_goto (tgt := 50) d_MD_groupColumn_91 (by decide) ?_
  exact hK50 _ _ _ _ _ h
def B_MD_groupColumn_81  (K50 : Int32 → Int32 → Int32 → Int32 → x_m → Option (x_m)) (l1 : Int32) (l3 : Int32) (l5 : Int32) (m : x_m) : Option (x_m) := B_MD_groupColumn_86 K50 l1 l3 l5 1 m
theorem b_MD_groupColumn_81 {G : x_G} {ex : Bool} {r : x_m}  {K50 : Int32 → Int32 → Int32 → Int32 → x_m → Option (x_m)} (hK50 : ∀ (l1 : Int32) (l3 : Int32) (l4 : Int32) (l5 : Int32) (m : x_m), K50 l1 l3 l4 l5 m = some r → x_W G M_MD_groupColumn (x_rd 8) (x_Q G (x_rd 8) ex (x_pv r)) ex x_np (x_hp m) 0 0 [(0, .ref 387), (1, .int l1), (3, .int l3), (4, .int l4), (5, .int l5)] [] 50) {l1 : Int32} {l3 : Int32} {l5 : Int32} {m : x_m} (h : B_MD_groupColumn_81 K50 l1 l3 l5 m = some r) : x_W G M_MD_groupColumn (x_rd 8) (x_Q G (x_rd 8) ex (x_pv r)) ex x_np (x_hp m) 0 0 [(0, .ref 387), (1, .int l1), (3, .int l3), (5, .int l5)] [] 81 := by
  unfold B_MD_groupColumn_81 at h
  refine x_iconst (v := 1) d_MD_groupColumn_81 (by decide) ?_
  refine x_goto (tgt := 86) d_MD_groupColumn_82 (by decide) ?_
  exact b_MD_groupColumn_86 hK50 h
def B_MD_groupColumn_50   : Nat → Int32 → Int32 → Int32 → Int32 → x_m → Option (x_m)
  | 0, _, _, _, _, _ => none
  | f_ + 1, l1, l3, l4, l5, m => (if x_mq (m.2.2.1 387 22) = true then (if (m.1 (m.2.2.1 387 22) 4) ≤ l5 then (if l4 = 0 then B_MD_groupColumn_105 l1 l3 1 m else B_MD_groupColumn_105 l1 l3 0 m) else (if l4 = 0 then (if x_mq (m.2.2.1 387 22) = true then (if x_ix l5 8 = true then (if (m.2.1 (m.2.2.1 387 22 + 4) l5.toNatClampNeg) = l3 then B_MD_groupColumn_81 (B_MD_groupColumn_50 f_) l1 l3 l5 m else B_MD_groupColumn_86 (B_MD_groupColumn_50 f_) l1 l3 l5 0 m) else none) else none) else B_MD_groupColumn_81 (B_MD_groupColumn_50 f_) l1 l3 l5 m)) else none)
theorem b_MD_groupColumn_50 {G : x_G} {ex : Bool} {r : x_m}   : ∀ (f_ : Nat) (l1 : Int32) (l3 : Int32) (l4 : Int32) (l5 : Int32) (m : x_m), B_MD_groupColumn_50 f_ l1 l3 l4 l5 m = some r → x_W G M_MD_groupColumn (x_rd 8) (x_Q G (x_rd 8) ex (x_pv r)) ex x_np (x_hp m) 0 0 [(0, .ref 387), (1, .int l1), (3, .int l3), (4, .int l4), (5, .int l5)] [] 50 := by
  intro f_
  induction f_ with
  | zero => intro l1 l3 l4 l5 m h; exact nomatch h
  | succ f_ ih =>
    intro l1 l3 l4 l5 m h
    rw [B_MD_groupColumn_50] at h
    have hK50 := ih
    refine x_iload d_MD_groupColumn_50 rfl ?_
    refine x_aload_n d_MD_groupColumn_52 rfl rfl ?_
    refine x_gR d_MD_groupColumn_53 (f_MD_50 rfl) sh_MD hp_MD rfl ?_
    obtain ⟨g_53, h⟩ := x_gd h
    refine x_gIN d_MD_groupColumn_56 (f_MD_240 rfl) (sh_MQ (x_mq_ok g_53)) (hp_MQ (x_mq_ok g_53)) rfl ?_
    refine x_icmp_ge (tgt := 94) d_MD_groupColumn_59 (by decide) (fun c_ => ?_) (fun c_ => ?_)
    · replace h := x_it h c_
      refine x_aload_n d_MD_groupColumn_94 rfl rfl ?_
      refine x_iload d_MD_groupColumn_95 rfl ?_
      refine x_if_ne (tgt := 104) d_MD_groupColumn_97 (by decide) (fun c_ => ?_) (fun c_ => ?_)
      · replace h := x_ie h c_
        refine x_iconst (v := 0) d_MD_groupColumn_104 (by decide) ?_
        refine x_sbk [0, 1, 2] (lv2 := [(0, .ref 387), (1, .int l1), (3, .int l3)]) rfl ?_; exact b_MD_groupColumn_105 h
      · replace h := x_it h c_
        refine x_iconst (v := 1) d_MD_groupColumn_100 (by decide) ?_
        refine x_goto (tgt := 105) d_MD_groupColumn_101 (by decide) ?_
        refine x_sbk [0, 1, 2] (lv2 := [(0, .ref 387), (1, .int l1), (3, .int l3)]) rfl ?_; exact b_MD_groupColumn_105 h
    · replace h := x_ie h c_
      refine x_iload d_MD_groupColumn_62 rfl ?_
      refine x_if_ne (tgt := 81) d_MD_groupColumn_64 (by decide) (fun c_ => ?_) (fun c_ => ?_)
      · replace h := x_ie h c_
        refine x_sbk [0, 1, 2, 4] (lv2 := [(0, .ref 387), (1, .int l1), (3, .int l3), (5, .int l5)]) rfl ?_; exact b_MD_groupColumn_81 hK50 h
      · replace h := x_it h c_
        refine x_aload_n d_MD_groupColumn_67 rfl rfl ?_
        refine x_gR d_MD_groupColumn_68 (f_MD_50 rfl) sh_MD hp_MD rfl ?_
        obtain ⟨g_68, h⟩ := x_gd h
        refine x_gCN d_MD_groupColumn_71 (f_MD_243 rfl) (sh_MQ (x_mq_ok g_68)) (hp_MQ (x_mq_ok g_68)) rfl ?_
        refine x_iload d_MD_groupColumn_74 rfl ?_
        obtain ⟨g_76, h⟩ := x_gd h
        refine x_lI d_MD_groupColumn_76 rfl (sa_MQ_group (x_mq_ok g_68)) (ha_MQ_group (x_mq_ok g_68)) g_76 ?_
        refine x_iload_n d_MD_groupColumn_77 rfl rfl ?_
        refine x_icmp_ne (tgt := 85) d_MD_groupColumn_78 (by decide) (fun c_ => ?_) (fun c_ => ?_)
        · replace h := x_ie h c_
          refine x_iconst (v := 0) d_MD_groupColumn_85 (by decide) ?_
          refine x_sbk [0, 1, 2, 4] (lv2 := [(0, .ref 387), (1, .int l1), (3, .int l3), (5, .int l5)]) rfl ?_; exact b_MD_groupColumn_86 hK50 h
        · replace h := x_it h c_
          refine x_sbk [0, 1, 2, 4] (lv2 := [(0, .ref 387), (1, .int l1), (3, .int l3), (5, .int l5)]) rfl ?_; exact b_MD_groupColumn_81 hK50 h
def B_MD_groupColumn_28   (l1 : Int32) (l2 : Int32) (s0 : Int32) (m : x_m) : Option (x_m) := ((F_MD_want s0 7 l1 m).bind fun r31 => (if r31.1 = 0 then some r31.2 else ((F_MD_columnsLevel l2 r31.2).bind fun r40 => B_MD_groupColumn_50 x_fu l1 r40.1 0 0 r40.2)))
theorem b_MD_groupColumn_28 {G : x_G} {ex : Bool} {r : x_m}   {l1 : Int32} {l2 : Int32} {s0 : Int32} {m : x_m} (h : B_MD_groupColumn_28 l1 l2 s0 m = some r) : x_W G M_MD_groupColumn (x_rd 8) (x_Q G (x_rd 8) ex (x_pv r)) ex x_np (x_hp m) 0 0 [(0, .ref 387), (1, .int l1), (2, .int l2)] [.int s0, .ref 387] 28 := by
  unfold B_MD_groupColumn_28 at h
  refine x_bipush (v := 7) d_MD_groupColumn_28 (by decide) ?_
  refine x_iload_n d_MD_groupColumn_30 rfl rfl ?_
  obtain ⟨r31, e31, h⟩ := x_bd h
  refine x_cVi (M2 := M_MD_want) (As := [.int s0, .int 7, .int l1]) (st := []) d_MD_groupColumn_31 w_1315 k_MD_want (c_MD_want e31) rfl sh_MD hp_MD rfl ⟨Nat.le_of_ble_eq_true rfl, Nat.le_of_ble_eq_true rfl⟩ (Nat.le_of_ble_eq_true rfl) (Nat.le_of_ble_eq_true rfl) rfl ?_
  refine x_if_ne (tgt := 38) d_MD_groupColumn_34 (by decide) (fun c_ => ?_) (fun c_ => ?_)
  · replace h := x_ie h c_
    refine x_aload_n d_MD_groupColumn_38 rfl rfl ?_
    refine x_iload_n d_MD_groupColumn_39 rfl rfl ?_
    obtain ⟨r40, e40, h⟩ := x_bd h
    refine x_cVi (M2 := M_MD_columnsLevel) (As := [.int l2]) (st := []) d_MD_groupColumn_40 w_1391 k_MD_columnsLevel (c_MD_columnsLevel e40) rfl sh_MD hp_MD rfl ⟨Nat.le_of_ble_eq_true rfl, Nat.le_of_ble_eq_true rfl⟩ (Nat.le_of_ble_eq_true rfl) (Nat.le_of_ble_eq_true rfl) rfl ?_
    refine x_istore_n (lv2 := [(0, .ref 387), (1, .int l1), (2, .int l2), (3, .int r40.1)]) d_MD_groupColumn_43 rfl (by decide) rfl ?_
    refine x_iconst (v := 0) d_MD_groupColumn_44 (by decide) ?_
    refine x_istore (lv2 := [(0, .ref 387), (1, .int l1), (2, .int l2), (3, .int r40.1), (4, .int 0)]) d_MD_groupColumn_45 (by decide) rfl ?_
    refine x_iconst (v := 0) d_MD_groupColumn_47 (by decide) ?_
    refine x_istore (lv2 := [(0, .ref 387), (1, .int l1), (2, .int l2), (3, .int r40.1), (4, .int 0), (5, .int 0)]) d_MD_groupColumn_48 (by decide) rfl ?_
    refine x_sbk [0, 1, 3, 4, 5] (lv2 := [(0, .ref 387), (1, .int l1), (3, .int r40.1), (4, .int 0), (5, .int 0)]) rfl ?_; exact b_MD_groupColumn_50 _ _ _ _ _ _ h
  · replace h := x_it h c_
    cases h
    exact x_rv d_MD_groupColumn_37 rfl
def F_MD_groupColumn   (m : x_m) : Option (x_m) := ((F_MD_columnsDimension m).bind fun r6 => (if x_mq (r6.2.2.2.1 387 22) = true then (if 8 ≤ (r6.2.1 (r6.2.2.2.1 387 22) 4) then B_MD_groupColumn_28 (m.1 387 8) r6.1 0 r6.2 else B_MD_groupColumn_28 (m.1 387 8) r6.1 1 r6.2) else none))
theorem c_MD_groupColumn {G : x_G} {ex : Bool} {r : x_m}   {m : x_m} (h : F_MD_groupColumn m = some r) : x_R G M_MD_groupColumn (x_rd 8) ex [.ref 387] x_np (x_hp m) (x_pv r) := by
  unfold F_MD_groupColumn at h
  show x_W G M_MD_groupColumn (x_rd 8) (x_Q G (x_rd 8) ex (x_pv r)) ex x_np (x_hp m) 0 0 [(0, .ref 387)] [] 0
  refine x_aload_n d_MD_groupColumn_0 rfl rfl ?_
  refine x_gI d_MD_groupColumn_1 (f_MD_77 rfl) sh_MD hp_MD rfl ?_
  refine x_istore_n (lv2 := [(0, .ref 387), (1, .int (m.1 387 8))]) d_MD_groupColumn_4 rfl (by decide) rfl ?_
  refine x_aload_n d_MD_groupColumn_5 rfl rfl ?_
  obtain ⟨r6, e6, h⟩ := x_bd h
  refine x_cVi (M2 := M_MD_columnsDimension) (As := []) (st := []) d_MD_groupColumn_6 w_1387 k_MD_columnsDimension (c_MD_columnsDimension e6) rfl sh_MD hp_MD rfl ⟨Nat.le_of_ble_eq_true rfl, Nat.le_of_ble_eq_true rfl⟩ (Nat.le_of_ble_eq_true rfl) (Nat.le_of_ble_eq_true rfl) rfl ?_
  refine x_istore_n (lv2 := [(0, .ref 387), (1, .int (m.1 387 8)), (2, .int r6.1)]) d_MD_groupColumn_9 rfl (by decide) rfl ?_
  refine x_aload_n d_MD_groupColumn_10 rfl rfl ?_
  refine x_aload_n d_MD_groupColumn_11 rfl rfl ?_
  refine x_gR d_MD_groupColumn_12 (f_MD_50 rfl) sh_MD hp_MD rfl ?_
  obtain ⟨g_12, h⟩ := x_gd h
  refine x_gIN d_MD_groupColumn_15 (f_MD_240 rfl) (sh_MQ (x_mq_ok g_12)) (hp_MQ (x_mq_ok g_12)) rfl ?_
  refine x_bipush (v := 8) d_MD_groupColumn_18 (by decide) ?_
  refine x_icmp_ge (tgt := 27) d_MD_groupColumn_20 (by decide) (fun c_ => ?_) (fun c_ => ?_)
  · replace h := x_it h c_
    refine x_iconst (v := 0) d_MD_groupColumn_27 (by decide) ?_
    exact b_MD_groupColumn_28 h
  · replace h := x_ie h c_
    refine x_iconst (v := 1) d_MD_groupColumn_23 (by decide) ?_
    refine x_goto (tgt := 28) d_MD_groupColumn_24 (by decide) ?_
    exact b_MD_groupColumn_28 h
def B_MD_groupsOf_204   (s0 : Int32) (m : x_m) : Option (Int32 × x_m) := some (s0, m)
theorem b_MD_groupsOf_204 {G : x_G} {ex : Bool} {r : Int32 × x_m}   {s0 : Int32} {m : x_m} (h : B_MD_groupsOf_204 s0 m = some r) : x_W G M_MD_groupsOf (x_rd 9) (x_Q G (x_rd 9) ex (x_pi r)) ex x_np (x_hp m) 0 0 [] [.int s0] 204 := by
  unfold B_MD_groupsOf_204 at h
  cases h
  exact x_ri d_MD_groupsOf_204 rfl rfl
def B_MD_groupsOf_118   (l1 : Int32) (l2 : Int32) (m : x_m) : Option (Int32 × x_m) := (if (m.1 387 5) ≤ 0 then (if x_mq (m.2.2.1 387 22) = true then (if x_mq (m.2.2.1 387 22) = true then (if x_mq (m.2.2.1 387 22) = true then (if x_ix (m.1 (m.2.2.1 387 22) 6) 8 = true then (if x_mq ((x_wA m (m.2.2.1 387 22 + 5) (m.1 (m.2.2.1 387 22) 6).toNatClampNeg l2).2.2.1 387 22) = true then (if x_mq ((x_wA m (m.2.2.1 387 22 + 5) (m.1 (m.2.2.1 387 22) 6).toNatClampNeg l2).2.2.1 387 22) = true then (if x_ix ((x_wA m (m.2.2.1 387 22 + 5) (m.1 (m.2.2.1 387 22) 6).toNatClampNeg l2).1 ((x_wA m (m.2.2.1 387 22 + 5) (m.1 (m.2.2.1 387 22) 6).toNatClampNeg l2).2.2.1 387 22) 6) 8 = true then (if x_mq ((x_wA (x_wA m (m.2.2.1 387 22 + 5) (m.1 (m.2.2.1 387 22) 6).toNatClampNeg l2) ((x_wA m (m.2.2.1 387 22 + 5) (m.1 (m.2.2.1 387 22) 6).toNatClampNeg l2).2.2.1 387 22 + 6) ((x_wA m (m.2.2.1 387 22 + 5) (m.1 (m.2.2.1 387 22) 6).toNatClampNeg l2).1 ((x_wA m (m.2.2.1 387 22 + 5) (m.1 (m.2.2.1 387 22) 6).toNatClampNeg l2).2.2.1 387 22) 6).toNatClampNeg ((m.1 (m.2.2.1 387 22) 4) - l1)).2.2.1 387 22) = true then (if l2 = 0 then B_MD_groupsOf_204 1 (x_wS (x_wA (x_wA m (m.2.2.1 387 22 + 5) (m.1 (m.2.2.1 387 22) 6).toNatClampNeg l2) ((x_wA m (m.2.2.1 387 22 + 5) (m.1 (m.2.2.1 387 22) 6).toNatClampNeg l2).2.2.1 387 22 + 6) ((x_wA m (m.2.2.1 387 22 + 5) (m.1 (m.2.2.1 387 22) 6).toNatClampNeg l2).1 ((x_wA m (m.2.2.1 387 22 + 5) (m.1 (m.2.2.1 387 22) 6).toNatClampNeg l2).2.2.1 387 22) 6).toNatClampNeg ((m.1 (m.2.2.1 387 22) 4) - l1)) ((x_wA (x_wA m (m.2.2.1 387 22 + 5) (m.1 (m.2.2.1 387 22) 6).toNatClampNeg l2) ((x_wA m (m.2.2.1 387 22 + 5) (m.1 (m.2.2.1 387 22) 6).toNatClampNeg l2).2.2.1 387 22 + 6) ((x_wA m (m.2.2.1 387 22 + 5) (m.1 (m.2.2.1 387 22) 6).toNatClampNeg l2).1 ((x_wA m (m.2.2.1 387 22 + 5) (m.1 (m.2.2.1 387 22) 6).toNatClampNeg l2).2.2.1 387 22) 6).toNatClampNeg ((m.1 (m.2.2.1 387 22) 4) - l1)).2.2.1 387 22) 6 (((x_wA (x_wA m (m.2.2.1 387 22 + 5) (m.1 (m.2.2.1 387 22) 6).toNatClampNeg l2) ((x_wA m (m.2.2.1 387 22 + 5) (m.1 (m.2.2.1 387 22) 6).toNatClampNeg l2).2.2.1 387 22 + 6) ((x_wA m (m.2.2.1 387 22 + 5) (m.1 (m.2.2.1 387 22) 6).toNatClampNeg l2).1 ((x_wA m (m.2.2.1 387 22 + 5) (m.1 (m.2.2.1 387 22) 6).toNatClampNeg l2).2.2.1 387 22) 6).toNatClampNeg ((m.1 (m.2.2.1 387 22) 4) - l1)).1 ((x_wA (x_wA m (m.2.2.1 387 22 + 5) (m.1 (m.2.2.1 387 22) 6).toNatClampNeg l2) ((x_wA m (m.2.2.1 387 22 + 5) (m.1 (m.2.2.1 387 22) 6).toNatClampNeg l2).2.2.1 387 22 + 6) ((x_wA m (m.2.2.1 387 22 + 5) (m.1 (m.2.2.1 387 22) 6).toNatClampNeg l2).1 ((x_wA m (m.2.2.1 387 22 + 5) (m.1 (m.2.2.1 387 22) 6).toNatClampNeg l2).2.2.1 387 22) 6).toNatClampNeg ((m.1 (m.2.2.1 387 22) 4) - l1)).2.2.1 387 22) 6) + 1)) else (if l2 = 1 then B_MD_groupsOf_204 (((m.1 (m.2.2.1 387 22) 4) - l1) + 1) (x_wS (x_wA (x_wA m (m.2.2.1 387 22 + 5) (m.1 (m.2.2.1 387 22) 6).toNatClampNeg l2) ((x_wA m (m.2.2.1 387 22 + 5) (m.1 (m.2.2.1 387 22) 6).toNatClampNeg l2).2.2.1 387 22 + 6) ((x_wA m (m.2.2.1 387 22 + 5) (m.1 (m.2.2.1 387 22) 6).toNatClampNeg l2).1 ((x_wA m (m.2.2.1 387 22 + 5) (m.1 (m.2.2.1 387 22) 6).toNatClampNeg l2).2.2.1 387 22) 6).toNatClampNeg ((m.1 (m.2.2.1 387 22) 4) - l1)) ((x_wA (x_wA m (m.2.2.1 387 22 + 5) (m.1 (m.2.2.1 387 22) 6).toNatClampNeg l2) ((x_wA m (m.2.2.1 387 22 + 5) (m.1 (m.2.2.1 387 22) 6).toNatClampNeg l2).2.2.1 387 22 + 6) ((x_wA m (m.2.2.1 387 22 + 5) (m.1 (m.2.2.1 387 22) 6).toNatClampNeg l2).1 ((x_wA m (m.2.2.1 387 22 + 5) (m.1 (m.2.2.1 387 22) 6).toNatClampNeg l2).2.2.1 387 22) 6).toNatClampNeg ((m.1 (m.2.2.1 387 22) 4) - l1)).2.2.1 387 22) 6 (((x_wA (x_wA m (m.2.2.1 387 22 + 5) (m.1 (m.2.2.1 387 22) 6).toNatClampNeg l2) ((x_wA m (m.2.2.1 387 22 + 5) (m.1 (m.2.2.1 387 22) 6).toNatClampNeg l2).2.2.1 387 22 + 6) ((x_wA m (m.2.2.1 387 22 + 5) (m.1 (m.2.2.1 387 22) 6).toNatClampNeg l2).1 ((x_wA m (m.2.2.1 387 22 + 5) (m.1 (m.2.2.1 387 22) 6).toNatClampNeg l2).2.2.1 387 22) 6).toNatClampNeg ((m.1 (m.2.2.1 387 22) 4) - l1)).1 ((x_wA (x_wA m (m.2.2.1 387 22 + 5) (m.1 (m.2.2.1 387 22) 6).toNatClampNeg l2) ((x_wA m (m.2.2.1 387 22 + 5) (m.1 (m.2.2.1 387 22) 6).toNatClampNeg l2).2.2.1 387 22 + 6) ((x_wA m (m.2.2.1 387 22 + 5) (m.1 (m.2.2.1 387 22) 6).toNatClampNeg l2).1 ((x_wA m (m.2.2.1 387 22 + 5) (m.1 (m.2.2.1 387 22) 6).toNatClampNeg l2).2.2.1 387 22) 6).toNatClampNeg ((m.1 (m.2.2.1 387 22) 4) - l1)).2.2.1 387 22) 6) + 1)) else B_MD_groupsOf_204 ((1 : Int32) <<< (((m.1 (m.2.2.1 387 22) 4) - l1) &&& 31)) (x_wS (x_wA (x_wA m (m.2.2.1 387 22 + 5) (m.1 (m.2.2.1 387 22) 6).toNatClampNeg l2) ((x_wA m (m.2.2.1 387 22 + 5) (m.1 (m.2.2.1 387 22) 6).toNatClampNeg l2).2.2.1 387 22 + 6) ((x_wA m (m.2.2.1 387 22 + 5) (m.1 (m.2.2.1 387 22) 6).toNatClampNeg l2).1 ((x_wA m (m.2.2.1 387 22 + 5) (m.1 (m.2.2.1 387 22) 6).toNatClampNeg l2).2.2.1 387 22) 6).toNatClampNeg ((m.1 (m.2.2.1 387 22) 4) - l1)) ((x_wA (x_wA m (m.2.2.1 387 22 + 5) (m.1 (m.2.2.1 387 22) 6).toNatClampNeg l2) ((x_wA m (m.2.2.1 387 22 + 5) (m.1 (m.2.2.1 387 22) 6).toNatClampNeg l2).2.2.1 387 22 + 6) ((x_wA m (m.2.2.1 387 22 + 5) (m.1 (m.2.2.1 387 22) 6).toNatClampNeg l2).1 ((x_wA m (m.2.2.1 387 22 + 5) (m.1 (m.2.2.1 387 22) 6).toNatClampNeg l2).2.2.1 387 22) 6).toNatClampNeg ((m.1 (m.2.2.1 387 22) 4) - l1)).2.2.1 387 22) 6 (((x_wA (x_wA m (m.2.2.1 387 22 + 5) (m.1 (m.2.2.1 387 22) 6).toNatClampNeg l2) ((x_wA m (m.2.2.1 387 22 + 5) (m.1 (m.2.2.1 387 22) 6).toNatClampNeg l2).2.2.1 387 22 + 6) ((x_wA m (m.2.2.1 387 22 + 5) (m.1 (m.2.2.1 387 22) 6).toNatClampNeg l2).1 ((x_wA m (m.2.2.1 387 22 + 5) (m.1 (m.2.2.1 387 22) 6).toNatClampNeg l2).2.2.1 387 22) 6).toNatClampNeg ((m.1 (m.2.2.1 387 22) 4) - l1)).1 ((x_wA (x_wA m (m.2.2.1 387 22 + 5) (m.1 (m.2.2.1 387 22) 6).toNatClampNeg l2) ((x_wA m (m.2.2.1 387 22 + 5) (m.1 (m.2.2.1 387 22) 6).toNatClampNeg l2).2.2.1 387 22 + 6) ((x_wA m (m.2.2.1 387 22 + 5) (m.1 (m.2.2.1 387 22) 6).toNatClampNeg l2).1 ((x_wA m (m.2.2.1 387 22 + 5) (m.1 (m.2.2.1 387 22) 6).toNatClampNeg l2).2.2.1 387 22) 6).toNatClampNeg ((m.1 (m.2.2.1 387 22) 4) - l1)).2.2.1 387 22) 6) + 1)))) else none) else none) else none) else none) else none) else none) else none) else none) else some (1, m))
theorem b_MD_groupsOf_118 {G : x_G} {ex : Bool} {r : Int32 × x_m}   {l1 : Int32} {l2 : Int32} {m : x_m} (h : B_MD_groupsOf_118 l1 l2 m = some r) : x_W G M_MD_groupsOf (x_rd 9) (x_Q G (x_rd 9) ex (x_pi r)) ex x_np (x_hp m) 0 0 [(0, .ref 387), (1, .int l1), (2, .int l2)] [] 118 := by
  unfold B_MD_groupsOf_118 at h
  refine x_aload_n d_MD_groupsOf_118 rfl rfl ?_
  refine x_gI d_MD_groupsOf_119 (f_MD_67 rfl) sh_MD hp_MD rfl ?_
  refine x_if_le (tgt := 127) d_MD_groupsOf_122 (by decide) (fun c_ => ?_) (fun c_ => ?_)
  · replace h := x_it h c_
    refine x_aload_n d_MD_groupsOf_127 rfl rfl ?_
    refine x_gR d_MD_groupsOf_128 (f_MD_50 rfl) sh_MD hp_MD rfl ?_
    obtain ⟨g_128, h⟩ := x_gd h
    refine x_gIN d_MD_groupsOf_131 (f_MD_240 rfl) (sh_MQ (x_mq_ok g_128)) (hp_MQ (x_mq_ok g_128)) rfl ?_
    refine x_iload_n d_MD_groupsOf_134 rfl rfl ?_
    refine x_isub d_MD_groupsOf_135 ?_
    refine x_istore_n (lv2 := [(0, .ref 387), (1, .int l1), (2, .int l2), (3, .int ((m.1 (m.2.2.1 387 22) 4) - l1))]) d_MD_groupsOf_136 rfl (by decide) rfl ?_
    refine x_aload_n d_MD_groupsOf_137 rfl rfl ?_
    refine x_gR d_MD_groupsOf_138 (f_MD_50 rfl) sh_MD hp_MD rfl ?_
    obtain ⟨g_138, h⟩ := x_gd h
    refine x_gCN d_MD_groupsOf_141 (f_MD_249 rfl) (sh_MQ (x_mq_ok g_138)) (hp_MQ (x_mq_ok g_138)) rfl ?_
    refine x_aload_n d_MD_groupsOf_144 rfl rfl ?_
    refine x_gR d_MD_groupsOf_145 (f_MD_50 rfl) sh_MD hp_MD rfl ?_
    obtain ⟨g_145, h⟩ := x_gd h
    refine x_gIN d_MD_groupsOf_148 (f_MD_252 rfl) (sh_MQ (x_mq_ok g_145)) (hp_MQ (x_mq_ok g_145)) rfl ?_
    refine x_iload_n d_MD_groupsOf_151 rfl rfl ?_
    obtain ⟨g_152, h⟩ := x_gd h
    refine x_sI d_MD_groupsOf_152 rfl (sa_MQ_partKind (x_mq_ok g_138)) (ha_MQ_partKind (x_mq_ok g_138)) g_152 ?_
    refine x_aload_n d_MD_groupsOf_153 rfl rfl ?_
    refine x_gR d_MD_groupsOf_154 (f_MD_50 rfl) sh_MD hp_MD rfl ?_
    obtain ⟨g_154, h⟩ := x_gd h
    refine x_gCN d_MD_groupsOf_157 (f_MD_255 rfl) (sh_MQ (x_mq_ok g_154)) (hp_MQ (x_mq_ok g_154)) rfl ?_
    refine x_aload_n d_MD_groupsOf_160 rfl rfl ?_
    refine x_gR d_MD_groupsOf_161 (f_MD_50 rfl) sh_MD hp_MD rfl ?_
    obtain ⟨g_161, h⟩ := x_gd h
    refine x_gIN d_MD_groupsOf_164 (f_MD_252 rfl) (sh_MQ (x_mq_ok g_161)) (hp_MQ (x_mq_ok g_161)) rfl ?_
    refine x_iload_n d_MD_groupsOf_167 rfl rfl ?_
    obtain ⟨g_168, h⟩ := x_gd h
    refine x_sI d_MD_groupsOf_168 rfl (sa_MQ_partSize (x_mq_ok g_154)) (ha_MQ_partSize (x_mq_ok g_154)) g_168 ?_
    refine x_aload_n d_MD_groupsOf_169 rfl rfl ?_
    refine x_gR d_MD_groupsOf_170 (f_MD_50 rfl) sh_MD hp_MD rfl ?_
    obtain ⟨g_170, h⟩ := x_gd h
    refine x_dup d_MD_groupsOf_173 rfl ?_
    refine x_gIN d_MD_groupsOf_174 (f_MD_252 rfl) (sh_MQ (x_mq_ok g_170)) (hp_MQ (x_mq_ok g_170)) rfl ?_
    refine x_iconst (v := 1) d_MD_groupsOf_177 (by decide) ?_
    refine x_iadd d_MD_groupsOf_178 ?_
    refine x_pIN d_MD_groupsOf_179 (f_MD_252 rfl) tb_MQ rfl (sh_MQ (x_mq_ok g_170)) (hp_MQ (x_mq_ok g_170)) rfl ⟨rfl, rfl⟩ ?_
    refine x_iload_n d_MD_groupsOf_182 rfl rfl ?_
    refine x_if_ne (tgt := 190) d_MD_groupsOf_183 (by decide) (fun c_ => ?_) (fun c_ => ?_)
    · replace h := x_ie h c_
      refine x_iload_n d_MD_groupsOf_190 rfl rfl ?_
      refine x_iconst (v := 1) d_MD_groupsOf_191 (by decide) ?_
      refine x_icmp_ne (tgt := 201) d_MD_groupsOf_192 (by decide) (fun c_ => ?_) (fun c_ => ?_)
      · replace h := x_ie h c_
        refine x_iconst (v := 1) d_MD_groupsOf_201 (by decide) ?_
        refine x_iload_n d_MD_groupsOf_202 rfl rfl ?_
        refine x_ishl d_MD_groupsOf_203 ?_
        refine x_sbk [] (lv2 := []) rfl ?_; exact b_MD_groupsOf_204 h
      · replace h := x_it h c_
        refine x_iload_n d_MD_groupsOf_195 rfl rfl ?_
        refine x_iconst (v := 1) d_MD_groupsOf_196 (by decide) ?_
        refine x_iadd d_MD_groupsOf_197 ?_
        refine x_goto (tgt := 204) d_MD_groupsOf_198 (by decide) ?_
        refine x_sbk [] (lv2 := []) rfl ?_; exact b_MD_groupsOf_204 h
    · replace h := x_it h c_
      refine x_iconst (v := 1) d_MD_groupsOf_186 (by decide) ?_
      refine x_goto (tgt := 204) d_MD_groupsOf_187 (by decide) ?_
      refine x_sbk [] (lv2 := []) rfl ?_; exact b_MD_groupsOf_204 h
  · replace h := x_ie h c_
    refine x_iconst (v := 1) d_MD_groupsOf_125 (by decide) ?_
    cases h
    exact x_ri d_MD_groupsOf_126 rfl rfl
def B_MD_groupsOf_114  (K54 : Int32 → Int32 → Int32 → x_m → Option (Int32 × x_m)) (l1 : Int32) (l2 : Int32) (s0 : Int32) (m : x_m) : Option (Int32 × x_m) := K54 l1 l2 s0 m
theorem b_MD_groupsOf_114 {G : x_G} {ex : Bool} {r : Int32 × x_m}  {K54 : Int32 → Int32 → Int32 → x_m → Option (Int32 × x_m)} (hK54 : ∀ (l1 : Int32) (l2 : Int32) (l3 : Int32) (m : x_m), K54 l1 l2 l3 m = some r → x_W G M_MD_groupsOf (x_rd 9) (x_Q G (x_rd 9) ex (x_pi r)) ex x_np (x_hp m) 0 0 [(0, .ref 387), (1, .int l1), (2, .int l2), (3, .int l3)] [] 54) {l1 : Int32} {l2 : Int32} {s0 : Int32} {m : x_m} (h : B_MD_groupsOf_114 K54 l1 l2 s0 m = some r) : x_W G M_MD_groupsOf (x_rd 9) (x_Q G (x_rd 9) ex (x_pi r)) ex x_np (x_hp m) 0 0 [(0, .ref 387), (1, .int l1), (2, .int l2)] [.int s0] 114 := by
  unfold B_MD_groupsOf_114 at h
  refine x_istore_n (lv2 := [(0, .ref 387), (1, .int l1), (2, .int l2), (3, .int s0)]) d_MD_groupsOf_114 rfl (by decide) rfl ?_
  refine x_goto (tgt := 54) d_MD_groupsOf_115 (by decide) ?_
  exact hK54 _ _ _ _ h
def B_MD_groupsOf_113  (K54 : Int32 → Int32 → Int32 → x_m → Option (Int32 × x_m)) (l1 : Int32) (l2 : Int32) (m : x_m) : Option (Int32 × x_m) := B_MD_groupsOf_114 K54 l1 l2 0 m
theorem b_MD_groupsOf_113 {G : x_G} {ex : Bool} {r : Int32 × x_m}  {K54 : Int32 → Int32 → Int32 → x_m → Option (Int32 × x_m)} (hK54 : ∀ (l1 : Int32) (l2 : Int32) (l3 : Int32) (m : x_m), K54 l1 l2 l3 m = some r → x_W G M_MD_groupsOf (x_rd 9) (x_Q G (x_rd 9) ex (x_pi r)) ex x_np (x_hp m) 0 0 [(0, .ref 387), (1, .int l1), (2, .int l2), (3, .int l3)] [] 54) {l1 : Int32} {l2 : Int32} {m : x_m} (h : B_MD_groupsOf_113 K54 l1 l2 m = some r) : x_W G M_MD_groupsOf (x_rd 9) (x_Q G (x_rd 9) ex (x_pi r)) ex x_np (x_hp m) 0 0 [(0, .ref 387), (1, .int l1), (2, .int l2)] [] 113 := by
  unfold B_MD_groupsOf_113 at h
  refine x_iconst (v := 0) d_MD_groupsOf_113 (by decide) ?_
  exact b_MD_groupsOf_114 hK54 h
def B_MD_groupsOf_94  (K54 : Int32 → Int32 → Int32 → x_m → Option (Int32 × x_m)) (l1 : Int32) (l2 : Int32) (s0 : Int32) (m : x_m) : Option (Int32 × x_m) := ((F_MD_must s0 m).bind fun r94 => (if r94.1 = 0 then B_MD_groupsOf_113 K54 l1 l2 r94.2 else ((F_MD_isSign 44 r94.2).bind fun r103 => (if r103.1 = 0 then B_MD_groupsOf_113 K54 l1 l2 r103.2 else B_MD_groupsOf_114 K54 l1 l2 1 r103.2))))
theorem b_MD_groupsOf_94 {G : x_G} {ex : Bool} {r : Int32 × x_m}  {K54 : Int32 → Int32 → Int32 → x_m → Option (Int32 × x_m)} (hK54 : ∀ (l1 : Int32) (l2 : Int32) (l3 : Int32) (m : x_m), K54 l1 l2 l3 m = some r → x_W G M_MD_groupsOf (x_rd 9) (x_Q G (x_rd 9) ex (x_pi r)) ex x_np (x_hp m) 0 0 [(0, .ref 387), (1, .int l1), (2, .int l2), (3, .int l3)] [] 54) {l1 : Int32} {l2 : Int32} {s0 : Int32} {m : x_m} (h : B_MD_groupsOf_94 K54 l1 l2 s0 m = some r) : x_W G M_MD_groupsOf (x_rd 9) (x_Q G (x_rd 9) ex (x_pi r)) ex x_np (x_hp m) 0 0 [(0, .ref 387), (1, .int l1), (2, .int l2)] [.int s0, .ref 387] 94 := by
  unfold B_MD_groupsOf_94 at h
  obtain ⟨r94, e94, h⟩ := x_bd h
  refine x_cVi (M2 := M_MD_must) (As := [.int s0]) (st := []) d_MD_groupsOf_94 w_1331 k_MD_must (c_MD_must e94) rfl sh_MD hp_MD rfl ⟨Nat.le_of_ble_eq_true rfl, Nat.le_of_ble_eq_true rfl⟩ (Nat.le_of_ble_eq_true rfl) (Nat.le_of_ble_eq_true rfl) rfl ?_
  refine x_if_eq (tgt := 113) d_MD_groupsOf_97 (by decide) (fun c_ => ?_) (fun c_ => ?_)
  · replace h := x_it h c_
    exact b_MD_groupsOf_113 hK54 h
  · replace h := x_ie h c_
    refine x_aload_n d_MD_groupsOf_100 rfl rfl ?_
    refine x_bipush (v := 44) d_MD_groupsOf_101 (by decide) ?_
    obtain ⟨r103, e103, h⟩ := x_bd h
    refine x_cVi (M2 := M_MD_isSign) (As := [.int 44]) (st := []) d_MD_groupsOf_103 w_1363 k_MD_isSign (c_MD_isSign e103) rfl sh_MD hp_MD rfl ⟨Nat.le_of_ble_eq_true rfl, Nat.le_of_ble_eq_true rfl⟩ (Nat.le_of_ble_eq_true rfl) (Nat.le_of_ble_eq_true rfl) rfl ?_
    refine x_if_eq (tgt := 113) d_MD_groupsOf_106 (by decide) (fun c_ => ?_) (fun c_ => ?_)
    · replace h := x_it h c_
      exact b_MD_groupsOf_113 hK54 h
    · replace h := x_ie h c_
      refine x_iconst (v := 1) d_MD_groupsOf_109 (by decide) ?_
      refine x_goto (tgt := 114) d_MD_groupsOf_110 (by decide) ?_
      exact b_MD_groupsOf_114 hK54 h
def B_MD_groupsOf_89  (K54 : Int32 → Int32 → Int32 → x_m → Option (Int32 × x_m)) (l1 : Int32) (l2 : Int32) (m : x_m) : Option (Int32 × x_m) := B_MD_groupsOf_94 K54 l1 l2 1 m
theorem b_MD_groupsOf_89 {G : x_G} {ex : Bool} {r : Int32 × x_m}  {K54 : Int32 → Int32 → Int32 → x_m → Option (Int32 × x_m)} (hK54 : ∀ (l1 : Int32) (l2 : Int32) (l3 : Int32) (m : x_m), K54 l1 l2 l3 m = some r → x_W G M_MD_groupsOf (x_rd 9) (x_Q G (x_rd 9) ex (x_pi r)) ex x_np (x_hp m) 0 0 [(0, .ref 387), (1, .int l1), (2, .int l2), (3, .int l3)] [] 54) {l1 : Int32} {l2 : Int32} {m : x_m} (h : B_MD_groupsOf_89 K54 l1 l2 m = some r) : x_W G M_MD_groupsOf (x_rd 9) (x_Q G (x_rd 9) ex (x_pi r)) ex x_np (x_hp m) 0 0 [(0, .ref 387), (1, .int l1), (2, .int l2)] [.ref 387] 89 := by
  unfold B_MD_groupsOf_89 at h
  refine x_iconst (v := 1) d_MD_groupsOf_89 (by decide) ?_
  refine x_goto (tgt := 94) d_MD_groupsOf_90 (by decide) ?_
  exact b_MD_groupsOf_94 hK54 h
def B_MD_groupsOf_54   : Nat → Int32 → Int32 → Int32 → x_m → Option (Int32 × x_m)
  | 0, _, _, _, _ => none
  | f_ + 1, l1, l2, l3, m => (if l3 = 0 then B_MD_groupsOf_118 l1 l2 m else ((F_MD_read m).bind fun r59 => ((F_MD_groupColumn r59).bind fun r63 => ((F_MD_read r63).bind fun r67 => ((F_MD_isSign 44 r67).bind fun r74 => (if r74.1 = 0 then ((F_MD_isSign 41 r74.2).bind fun r83 => (if r83.1 = 0 then B_MD_groupsOf_94 (B_MD_groupsOf_54 f_) l1 l2 0 r83.2 else B_MD_groupsOf_89 (B_MD_groupsOf_54 f_) l1 l2 r83.2)) else B_MD_groupsOf_89 (B_MD_groupsOf_54 f_) l1 l2 r74.2))))))
theorem b_MD_groupsOf_54 {G : x_G} {ex : Bool} {r : Int32 × x_m}   : ∀ (f_ : Nat) (l1 : Int32) (l2 : Int32) (l3 : Int32) (m : x_m), B_MD_groupsOf_54 f_ l1 l2 l3 m = some r → x_W G M_MD_groupsOf (x_rd 9) (x_Q G (x_rd 9) ex (x_pi r)) ex x_np (x_hp m) 0 0 [(0, .ref 387), (1, .int l1), (2, .int l2), (3, .int l3)] [] 54 := by
  intro f_
  induction f_ with
  | zero => intro l1 l2 l3 m h; exact nomatch h
  | succ f_ ih =>
    intro l1 l2 l3 m h
    rw [B_MD_groupsOf_54] at h
    have hK54 := ih
    refine x_iload_n d_MD_groupsOf_54 rfl rfl ?_
    refine x_if_eq (tgt := 118) d_MD_groupsOf_55 (by decide) (fun c_ => ?_) (fun c_ => ?_)
    · replace h := x_it h c_
      refine x_sbk [0, 1, 2] (lv2 := [(0, .ref 387), (1, .int l1), (2, .int l2)]) rfl ?_; exact b_MD_groupsOf_118 h
    · replace h := x_ie h c_
      refine x_aload_n d_MD_groupsOf_58 rfl rfl ?_
      obtain ⟨r59, e59, h⟩ := x_bd h
      refine x_cVv (M2 := M_MD_read) (As := []) (st := []) d_MD_groupsOf_59 w_1240 k_MD_read (c_MD_read e59) rfl sh_MD hp_MD rfl ⟨Nat.le_of_ble_eq_true rfl, Nat.le_of_ble_eq_true rfl⟩ (Nat.le_of_ble_eq_true rfl) (Nat.le_of_ble_eq_true rfl) rfl ?_
      refine x_aload_n d_MD_groupsOf_62 rfl rfl ?_
      obtain ⟨r63, e63, h⟩ := x_bd h
      refine x_cVv (M2 := M_MD_groupColumn) (As := []) (st := []) d_MD_groupsOf_63 w_1431 k_MD_groupColumn (c_MD_groupColumn e63) rfl sh_MD hp_MD rfl ⟨Nat.le_of_ble_eq_true rfl, Nat.le_of_ble_eq_true rfl⟩ (Nat.le_of_ble_eq_true rfl) (Nat.le_of_ble_eq_true rfl) rfl ?_
      refine x_aload_n d_MD_groupsOf_66 rfl rfl ?_
      obtain ⟨r67, e67, h⟩ := x_bd h
      refine x_cVv (M2 := M_MD_read) (As := []) (st := []) d_MD_groupsOf_67 w_1240 k_MD_read (c_MD_read e67) rfl sh_MD hp_MD rfl ⟨Nat.le_of_ble_eq_true rfl, Nat.le_of_ble_eq_true rfl⟩ (Nat.le_of_ble_eq_true rfl) (Nat.le_of_ble_eq_true rfl) rfl ?_
      refine x_aload_n d_MD_groupsOf_70 rfl rfl ?_
      refine x_aload_n d_MD_groupsOf_71 rfl rfl ?_
      refine x_bipush (v := 44) d_MD_groupsOf_72 (by decide) ?_
      obtain ⟨r74, e74, h⟩ := x_bd h
      refine x_cVi (M2 := M_MD_isSign) (As := [.int 44]) (st := [.ref 387]) d_MD_groupsOf_74 w_1363 k_MD_isSign (c_MD_isSign e74) rfl sh_MD hp_MD rfl ⟨Nat.le_of_ble_eq_true rfl, Nat.le_of_ble_eq_true rfl⟩ (Nat.le_of_ble_eq_true rfl) (Nat.le_of_ble_eq_true rfl) rfl ?_
      refine x_if_ne (tgt := 89) d_MD_groupsOf_77 (by decide) (fun c_ => ?_) (fun c_ => ?_)
      · replace h := x_ie h c_
        refine x_sbk [0, 1, 2] (lv2 := [(0, .ref 387), (1, .int l1), (2, .int l2)]) rfl ?_; exact b_MD_groupsOf_89 hK54 h
      · replace h := x_it h c_
        refine x_aload_n d_MD_groupsOf_80 rfl rfl ?_
        refine x_bipush (v := 41) d_MD_groupsOf_81 (by decide) ?_
        obtain ⟨r83, e83, h⟩ := x_bd h
        refine x_cVi (M2 := M_MD_isSign) (As := [.int 41]) (st := [.ref 387]) d_MD_groupsOf_83 w_1363 k_MD_isSign (c_MD_isSign e83) rfl sh_MD hp_MD rfl ⟨Nat.le_of_ble_eq_true rfl, Nat.le_of_ble_eq_true rfl⟩ (Nat.le_of_ble_eq_true rfl) (Nat.le_of_ble_eq_true rfl) rfl ?_
        refine x_if_eq (tgt := 93) d_MD_groupsOf_86 (by decide) (fun c_ => ?_) (fun c_ => ?_)
        · replace h := x_it h c_
          refine x_iconst (v := 0) d_MD_groupsOf_93 (by decide) ?_
          refine x_sbk [0, 1, 2] (lv2 := [(0, .ref 387), (1, .int l1), (2, .int l2)]) rfl ?_; exact b_MD_groupsOf_94 hK54 h
        · replace h := x_ie h c_
          refine x_sbk [0, 1, 2] (lv2 := [(0, .ref 387), (1, .int l1), (2, .int l2)]) rfl ?_; exact b_MD_groupsOf_89 hK54 h
def B_MD_groupsOf_35   (l1 : Int32) (s0 : Int32) (m : x_m) : Option (Int32 × x_m) := (if s0 = 0 then ((F_MD_groupColumn m).bind fun r41 => B_MD_groupsOf_118 l1 s0 r41) else ((F_MD_needSign 40 m).bind fun r50 => B_MD_groupsOf_54 x_fu l1 s0 r50.1 r50.2))
theorem b_MD_groupsOf_35 {G : x_G} {ex : Bool} {r : Int32 × x_m}   {l1 : Int32} {s0 : Int32} {m : x_m} (h : B_MD_groupsOf_35 l1 s0 m = some r) : x_W G M_MD_groupsOf (x_rd 9) (x_Q G (x_rd 9) ex (x_pi r)) ex x_np (x_hp m) 0 0 [(0, .ref 387), (1, .int l1)] [.int s0] 35 := by
  unfold B_MD_groupsOf_35 at h
  refine x_istore_n (lv2 := [(0, .ref 387), (1, .int l1), (2, .int s0)]) d_MD_groupsOf_35 rfl (by decide) rfl ?_
  refine x_iload_n d_MD_groupsOf_36 rfl rfl ?_
  refine x_if_ne (tgt := 47) d_MD_groupsOf_37 (by decide) (fun c_ => ?_) (fun c_ => ?_)
  · replace h := x_ie h c_
    refine x_aload_n d_MD_groupsOf_47 rfl rfl ?_
    refine x_bipush (v := 40) d_MD_groupsOf_48 (by decide) ?_
    obtain ⟨r50, e50, h⟩ := x_bd h
    refine x_cVi (M2 := M_MD_needSign) (As := [.int 40]) (st := []) d_MD_groupsOf_50 w_1359 k_MD_needSign (c_MD_needSign e50) rfl sh_MD hp_MD rfl ⟨Nat.le_of_ble_eq_true rfl, Nat.le_of_ble_eq_true rfl⟩ (Nat.le_of_ble_eq_true rfl) (Nat.le_of_ble_eq_true rfl) rfl ?_
    refine x_istore_n (lv2 := [(0, .ref 387), (1, .int l1), (2, .int s0), (3, .int r50.1)]) d_MD_groupsOf_53 rfl (by decide) rfl ?_
    exact b_MD_groupsOf_54 _ _ _ _ _ h
  · replace h := x_it h c_
    refine x_aload_n d_MD_groupsOf_40 rfl rfl ?_
    obtain ⟨r41, e41, h⟩ := x_bd h
    refine x_cVv (M2 := M_MD_groupColumn) (As := []) (st := []) d_MD_groupsOf_41 w_1431 k_MD_groupColumn (c_MD_groupColumn e41) rfl sh_MD hp_MD rfl ⟨Nat.le_of_ble_eq_true rfl, Nat.le_of_ble_eq_true rfl⟩ (Nat.le_of_ble_eq_true rfl) (Nat.le_of_ble_eq_true rfl) rfl ?_
    refine x_goto (tgt := 118) d_MD_groupsOf_44 (by decide) ?_
    exact b_MD_groupsOf_118 h
def F_MD_groupsOf   (m : x_m) : Option (Int32 × x_m) := (if x_mq (m.2.2.1 387 22) = true then ((F_MD_isWord 7 m).bind fun r11 => (if r11.1 = 0 then ((F_MD_isWord 8 r11.2).bind fun r24 => (if r24.1 = 0 then B_MD_groupsOf_35 (m.1 (m.2.2.1 387 22) 4) 0 r24.2 else B_MD_groupsOf_35 (m.1 (m.2.2.1 387 22) 4) 2 r24.2)) else B_MD_groupsOf_35 (m.1 (m.2.2.1 387 22) 4) 1 r11.2)) else none)
theorem c_MD_groupsOf {G : x_G} {ex : Bool} {r : Int32 × x_m}   {m : x_m} (h : F_MD_groupsOf m = some r) : x_R G M_MD_groupsOf (x_rd 9) ex [.ref 387] x_np (x_hp m) (x_pi r) := by
  unfold F_MD_groupsOf at h
  show x_W G M_MD_groupsOf (x_rd 9) (x_Q G (x_rd 9) ex (x_pi r)) ex x_np (x_hp m) 0 0 [(0, .ref 387)] [] 0
  refine x_aload_n d_MD_groupsOf_0 rfl rfl ?_
  refine x_gR d_MD_groupsOf_1 (f_MD_50 rfl) sh_MD hp_MD rfl ?_
  obtain ⟨g_1, h⟩ := x_gd h
  refine x_gIN d_MD_groupsOf_4 (f_MD_240 rfl) (sh_MQ (x_mq_ok g_1)) (hp_MQ (x_mq_ok g_1)) rfl ?_
  refine x_istore_n (lv2 := [(0, .ref 387), (1, .int (m.1 (m.2.2.1 387 22) 4))]) d_MD_groupsOf_7 rfl (by decide) rfl ?_
  refine x_aload_n d_MD_groupsOf_8 rfl rfl ?_
  refine x_bipush (v := 7) d_MD_groupsOf_9 (by decide) ?_
  obtain ⟨r11, e11, h⟩ := x_bd h
  refine x_cVi (M2 := M_MD_isWord) (As := [.int 7]) (st := []) d_MD_groupsOf_11 w_1327 k_MD_isWord (c_MD_isWord e11) rfl sh_MD hp_MD rfl ⟨Nat.le_of_ble_eq_true rfl, Nat.le_of_ble_eq_true rfl⟩ (Nat.le_of_ble_eq_true rfl) (Nat.le_of_ble_eq_true rfl) rfl ?_
  refine x_if_eq (tgt := 21) d_MD_groupsOf_14 (by decide) (fun c_ => ?_) (fun c_ => ?_)
  · replace h := x_it h c_
    refine x_aload_n d_MD_groupsOf_21 rfl rfl ?_
    refine x_bipush (v := 8) d_MD_groupsOf_22 (by decide) ?_
    obtain ⟨r24, e24, h⟩ := x_bd h
    refine x_cVi (M2 := M_MD_isWord) (As := [.int 8]) (st := []) d_MD_groupsOf_24 w_1327 k_MD_isWord (c_MD_isWord e24) rfl sh_MD hp_MD rfl ⟨Nat.le_of_ble_eq_true rfl, Nat.le_of_ble_eq_true rfl⟩ (Nat.le_of_ble_eq_true rfl) (Nat.le_of_ble_eq_true rfl) rfl ?_
    refine x_if_eq (tgt := 34) d_MD_groupsOf_27 (by decide) (fun c_ => ?_) (fun c_ => ?_)
    · replace h := x_it h c_
      refine x_iconst (v := 0) d_MD_groupsOf_34 (by decide) ?_
      exact b_MD_groupsOf_35 h
    · replace h := x_ie h c_
      refine x_iconst (v := 2) d_MD_groupsOf_30 (by decide) ?_
      refine x_goto (tgt := 35) d_MD_groupsOf_31 (by decide) ?_
      exact b_MD_groupsOf_35 h
  · replace h := x_ie h c_
    refine x_iconst (v := 1) d_MD_groupsOf_17 (by decide) ?_
    refine x_goto (tgt := 35) d_MD_groupsOf_18 (by decide) ?_
    exact b_MD_groupsOf_35 h
