def M_NM_letterAt : x_M := (⟨"QuestionReader$Names", "letterAt", "(II)I"⟩, prog_9_method_3_code, 3, some (.int), [])
theorem d_NM_letterAt_0 : decode M_NM_letterAt.2.1 0 = .ok (.iload_n 2, 1) := by decide +kernel
theorem d_NM_letterAt_1 : decode M_NM_letterAt.2.1 1 = .ok (.aload_n 0, 1) := by decide +kernel
theorem d_NM_letterAt_2 : decode M_NM_letterAt.2.1 2 = .ok (.getfield 15, 3) := by decide +kernel
theorem d_NM_letterAt_5 : decode M_NM_letterAt.2.1 5 = .ok (.iload_n 1, 1) := by decide +kernel
theorem d_NM_letterAt_6 : decode M_NM_letterAt.2.1 6 = .ok (.iaload, 1) := by decide +kernel
theorem d_NM_letterAt_7 : decode M_NM_letterAt.2.1 7 = .ok (.if_icmp .ge 17, 3) := by decide +kernel
theorem d_NM_letterAt_10 : decode M_NM_letterAt.2.1 10 = .ok (.aload_n 0, 1) := by decide +kernel
theorem d_NM_letterAt_11 : decode M_NM_letterAt.2.1 11 = .ok (.getfield 11, 3) := by decide +kernel
theorem d_NM_letterAt_14 : decode M_NM_letterAt.2.1 14 = .ok (.iload_n 1, 1) := by decide +kernel
theorem d_NM_letterAt_15 : decode M_NM_letterAt.2.1 15 = .ok (.bipush 40, 2) := by decide +kernel
theorem d_NM_letterAt_17 : decode M_NM_letterAt.2.1 17 = .ok (.imul, 1) := by decide +kernel
theorem d_NM_letterAt_18 : decode M_NM_letterAt.2.1 18 = .ok (.iload_n 2, 1) := by decide +kernel
theorem d_NM_letterAt_19 : decode M_NM_letterAt.2.1 19 = .ok (.iadd, 1) := by decide +kernel
theorem d_NM_letterAt_20 : decode M_NM_letterAt.2.1 20 = .ok (.baload, 1) := by decide +kernel
theorem d_NM_letterAt_21 : decode M_NM_letterAt.2.1 21 = .ok (.goto 4, 3) := by decide +kernel
theorem d_NM_letterAt_24 : decode M_NM_letterAt.2.1 24 = .ok (.iconst (-1), 1) := by decide +kernel
theorem d_NM_letterAt_25 : decode M_NM_letterAt.2.1 25 = .ok (.ireturn, 1) := by decide +kernel
theorem k_NM_letterAt : x_kV M_NM_letterAt "QuestionReader$Names" 2 := ⟨⟨by decide, Or.inl ⟨w_995, rfl⟩⟩, w_993, w_994, ⟨by decide, by decide⟩, by decide +kernel⟩
def M_CP_isListed : x_M := (⟨"QuestionReader$Comparison", "isListed", "(I)Z"⟩, prog_4_method_7_code, 3, some (.boolean), [])
theorem d_CP_isListed_0 : decode M_CP_isListed.2.1 0 = .ok (.iconst 0, 1) := by decide +kernel
theorem d_CP_isListed_1 : decode M_CP_isListed.2.1 1 = .ok (.istore_n 2, 1) := by decide +kernel
theorem d_CP_isListed_2 : decode M_CP_isListed.2.1 2 = .ok (.iload_n 2, 1) := by decide +kernel
theorem d_CP_isListed_3 : decode M_CP_isListed.2.1 3 = .ok (.aload_n 0, 1) := by decide +kernel
theorem d_CP_isListed_4 : decode M_CP_isListed.2.1 4 = .ok (.getfield 21, 3) := by decide +kernel
theorem d_CP_isListed_7 : decode M_CP_isListed.2.1 7 = .ok (.if_icmp .ge 21, 3) := by decide +kernel
theorem d_CP_isListed_10 : decode M_CP_isListed.2.1 10 = .ok (.aload_n 0, 1) := by decide +kernel
theorem d_CP_isListed_11 : decode M_CP_isListed.2.1 11 = .ok (.getfield 9, 3) := by decide +kernel
theorem d_CP_isListed_14 : decode M_CP_isListed.2.1 14 = .ok (.iload_n 2, 1) := by decide +kernel
theorem d_CP_isListed_15 : decode M_CP_isListed.2.1 15 = .ok (.iaload, 1) := by decide +kernel
theorem d_CP_isListed_16 : decode M_CP_isListed.2.1 16 = .ok (.iload_n 1, 1) := by decide +kernel
theorem d_CP_isListed_17 : decode M_CP_isListed.2.1 17 = .ok (.if_icmp .ne 5, 3) := by decide +kernel
theorem d_CP_isListed_20 : decode M_CP_isListed.2.1 20 = .ok (.iconst 1, 1) := by decide +kernel
theorem d_CP_isListed_21 : decode M_CP_isListed.2.1 21 = .ok (.ireturn, 1) := by decide +kernel
theorem d_CP_isListed_22 : decode M_CP_isListed.2.1 22 = .ok (.iinc 2 1, 3) := by decide +kernel
theorem d_CP_isListed_25 : decode M_CP_isListed.2.1 25 = .ok (.goto (-23), 3) := by decide +kernel
theorem d_CP_isListed_28 : decode M_CP_isListed.2.1 28 = .ok (.iconst 0, 1) := by decide +kernel
theorem d_CP_isListed_29 : decode M_CP_isListed.2.1 29 = .ok (.ireturn, 1) := by decide +kernel
theorem k_CP_isListed : x_kV M_CP_isListed "QuestionReader$Comparison" 1 := ⟨⟨by decide, Or.inl ⟨w_1052, rfl⟩⟩, w_1051, ws_35, ⟨by decide, by decide⟩, by decide +kernel⟩
def M_CP_accepts : x_M := (⟨"QuestionReader$Comparison", "accepts", "(I)Z"⟩, prog_4_method_6_code, 3, some (.boolean), [])
theorem d_CP_accepts_0 : decode M_CP_accepts.2.1 0 = .ok (.aload_n 0, 1) := by decide +kernel
theorem d_CP_accepts_1 : decode M_CP_accepts.2.1 1 = .ok (.getfield 21, 3) := by decide +kernel
theorem d_CP_accepts_4 : decode M_CP_accepts.2.1 4 = .ok (.ifCond .ne 27, 3) := by decide +kernel
theorem d_CP_accepts_7 : decode M_CP_accepts.2.1 7 = .ok (.aload_n 0, 1) := by decide +kernel
theorem d_CP_accepts_8 : decode M_CP_accepts.2.1 8 = .ok (.getfield 24, 3) := by decide +kernel
theorem d_CP_accepts_11 : decode M_CP_accepts.2.1 11 = .ok (.iload_n 1, 1) := by decide +kernel
theorem d_CP_accepts_12 : decode M_CP_accepts.2.1 12 = .ok (.if_icmp .gt 15, 3) := by decide +kernel
theorem d_CP_accepts_15 : decode M_CP_accepts.2.1 15 = .ok (.iload_n 1, 1) := by decide +kernel
theorem d_CP_accepts_16 : decode M_CP_accepts.2.1 16 = .ok (.aload_n 0, 1) := by decide +kernel
theorem d_CP_accepts_17 : decode M_CP_accepts.2.1 17 = .ok (.getfield 27, 3) := by decide +kernel
theorem d_CP_accepts_20 : decode M_CP_accepts.2.1 20 = .ok (.if_icmp .gt 7, 3) := by decide +kernel
theorem d_CP_accepts_23 : decode M_CP_accepts.2.1 23 = .ok (.iconst 1, 1) := by decide +kernel
theorem d_CP_accepts_24 : decode M_CP_accepts.2.1 24 = .ok (.goto 12, 3) := by decide +kernel
theorem d_CP_accepts_27 : decode M_CP_accepts.2.1 27 = .ok (.iconst 0, 1) := by decide +kernel
theorem d_CP_accepts_28 : decode M_CP_accepts.2.1 28 = .ok (.goto 8, 3) := by decide +kernel
theorem d_CP_accepts_31 : decode M_CP_accepts.2.1 31 = .ok (.aload_n 0, 1) := by decide +kernel
theorem d_CP_accepts_32 : decode M_CP_accepts.2.1 32 = .ok (.iload_n 1, 1) := by decide +kernel
theorem d_CP_accepts_33 : decode M_CP_accepts.2.1 33 = .ok (.invokevirtual 52, 3) := by decide +kernel
theorem d_CP_accepts_36 : decode M_CP_accepts.2.1 36 = .ok (.istore_n 2, 1) := by decide +kernel
theorem d_CP_accepts_37 : decode M_CP_accepts.2.1 37 = .ok (.iload_n 2, 1) := by decide +kernel
theorem d_CP_accepts_38 : decode M_CP_accepts.2.1 38 = .ok (.aload_n 0, 1) := by decide +kernel
theorem d_CP_accepts_39 : decode M_CP_accepts.2.1 39 = .ok (.getfield 17, 3) := by decide +kernel
theorem d_CP_accepts_42 : decode M_CP_accepts.2.1 42 = .ok (.if_icmp .eq 7, 3) := by decide +kernel
theorem d_CP_accepts_45 : decode M_CP_accepts.2.1 45 = .ok (.iconst 1, 1) := by decide +kernel
theorem d_CP_accepts_46 : decode M_CP_accepts.2.1 46 = .ok (.goto 4, 3) := by decide +kernel
theorem d_CP_accepts_49 : decode M_CP_accepts.2.1 49 = .ok (.iconst 0, 1) := by decide +kernel
theorem d_CP_accepts_50 : decode M_CP_accepts.2.1 50 = .ok (.ireturn, 1) := by decide +kernel
theorem k_CP_accepts : x_kV M_CP_accepts "QuestionReader$Comparison" 1 := ⟨⟨by decide, Or.inl ⟨w_1048, rfl⟩⟩, w_1046, w_1047, ⟨by decide, by decide⟩, by decide +kernel⟩
def M_CT_pickedValue : x_M := (⟨"QuestionReader$Catalog", "pickedValue", "(I)I"⟩, prog_2_method_8_code, 3, some (.int), [])
theorem d_CT_pickedValue_0 : decode M_CT_pickedValue.2.1 0 = .ok (.aload_n 0, 1) := by decide +kernel
theorem d_CT_pickedValue_1 : decode M_CT_pickedValue.2.1 1 = .ok (.getfield 20, 3) := by decide +kernel
theorem d_CT_pickedValue_4 : decode M_CT_pickedValue.2.1 4 = .ok (.iload_n 1, 1) := by decide +kernel
theorem d_CT_pickedValue_5 : decode M_CT_pickedValue.2.1 5 = .ok (.invokestatic 39, 3) := by decide +kernel
theorem d_CT_pickedValue_8 : decode M_CT_pickedValue.2.1 8 = .ok (.aaload, 1) := by decide +kernel
theorem d_CT_pickedValue_9 : decode M_CT_pickedValue.2.1 9 = .ok (.astore_n 2, 1) := by decide +kernel
theorem d_CT_pickedValue_10 : decode M_CT_pickedValue.2.1 10 = .ok (.aload_n 2, 1) := by decide +kernel
theorem d_CT_pickedValue_11 : decode M_CT_pickedValue.2.1 11 = .ok (.iload_n 1, 1) := by decide +kernel
theorem d_CT_pickedValue_12 : decode M_CT_pickedValue.2.1 12 = .ok (.invokestatic 43, 3) := by decide +kernel
theorem d_CT_pickedValue_15 : decode M_CT_pickedValue.2.1 15 = .ok (.aload_n 2, 1) := by decide +kernel
theorem d_CT_pickedValue_16 : decode M_CT_pickedValue.2.1 16 = .ok (.getfield 64, 3) := by decide +kernel
theorem d_CT_pickedValue_19 : decode M_CT_pickedValue.2.1 19 = .ok (.invokevirtual 67, 3) := by decide +kernel
theorem d_CT_pickedValue_22 : decode M_CT_pickedValue.2.1 22 = .ok (.ireturn, 1) := by decide +kernel
theorem k_CT_pickedValue : x_kV M_CT_pickedValue "QuestionReader$Catalog" 1 := ⟨⟨by decide, Or.inl ⟨w_1043, rfl⟩⟩, w_1041, w_1042, ⟨by decide, by decide⟩, by decide +kernel⟩
def M_CN_isTrueFor : x_M := (⟨"QuestionReader$Condition", "isTrueFor", "(LQuestionReader$Catalog;)Z"⟩, prog_5_method_11_code, 6, some (.boolean), [])
theorem d_CN_isTrueFor_0 : decode M_CN_isTrueFor.2.1 0 = .ok (.aload_n 0, 1) := by decide +kernel
theorem d_CN_isTrueFor_1 : decode M_CN_isTrueFor.2.1 1 = .ok (.getfield 44, 3) := by decide +kernel
theorem d_CN_isTrueFor_4 : decode M_CN_isTrueFor.2.1 4 = .ok (.ifCond .ne 5, 3) := by decide +kernel
theorem d_CN_isTrueFor_7 : decode M_CN_isTrueFor.2.1 7 = .ok (.iconst 1, 1) := by decide +kernel
theorem d_CN_isTrueFor_8 : decode M_CN_isTrueFor.2.1 8 = .ok (.ireturn, 1) := by decide +kernel
theorem d_CN_isTrueFor_9 : decode M_CN_isTrueFor.2.1 9 = .ok (.iconst 0, 1) := by decide +kernel
theorem d_CN_isTrueFor_10 : decode M_CN_isTrueFor.2.1 10 = .ok (.istore_n 2, 1) := by decide +kernel
theorem d_CN_isTrueFor_11 : decode M_CN_isTrueFor.2.1 11 = .ok (.iload_n 2, 1) := by decide +kernel
theorem d_CN_isTrueFor_12 : decode M_CN_isTrueFor.2.1 12 = .ok (.aload_n 0, 1) := by decide +kernel
theorem d_CN_isTrueFor_13 : decode M_CN_isTrueFor.2.1 13 = .ok (.getfield 44, 3) := by decide +kernel
theorem d_CN_isTrueFor_16 : decode M_CN_isTrueFor.2.1 16 = .ok (.if_icmp .ge 53, 3) := by decide +kernel
theorem d_CN_isTrueFor_19 : decode M_CN_isTrueFor.2.1 19 = .ok (.aload_n 1, 1) := by decide +kernel
theorem d_CN_isTrueFor_20 : decode M_CN_isTrueFor.2.1 20 = .ok (.aload_n 0, 1) := by decide +kernel
theorem d_CN_isTrueFor_21 : decode M_CN_isTrueFor.2.1 21 = .ok (.getfield 13, 3) := by decide +kernel
theorem d_CN_isTrueFor_24 : decode M_CN_isTrueFor.2.1 24 = .ok (.iload_n 2, 1) := by decide +kernel
theorem d_CN_isTrueFor_25 : decode M_CN_isTrueFor.2.1 25 = .ok (.aaload, 1) := by decide +kernel
theorem d_CN_isTrueFor_26 : decode M_CN_isTrueFor.2.1 26 = .ok (.getfield 65, 3) := by decide +kernel
theorem d_CN_isTrueFor_29 : decode M_CN_isTrueFor.2.1 29 = .ok (.invokevirtual 68, 3) := by decide +kernel
theorem d_CN_isTrueFor_32 : decode M_CN_isTrueFor.2.1 32 = .ok (.istore_n 3, 1) := by decide +kernel
theorem d_CN_isTrueFor_33 : decode M_CN_isTrueFor.2.1 33 = .ok (.aload_n 0, 1) := by decide +kernel
theorem d_CN_isTrueFor_34 : decode M_CN_isTrueFor.2.1 34 = .ok (.getfield 31, 3) := by decide +kernel
theorem d_CN_isTrueFor_37 : decode M_CN_isTrueFor.2.1 37 = .ok (.iload_n 2, 1) := by decide +kernel
theorem d_CN_isTrueFor_38 : decode M_CN_isTrueFor.2.1 38 = .ok (.aload_n 0, 1) := by decide +kernel
theorem d_CN_isTrueFor_39 : decode M_CN_isTrueFor.2.1 39 = .ok (.getfield 13, 3) := by decide +kernel
theorem d_CN_isTrueFor_42 : decode M_CN_isTrueFor.2.1 42 = .ok (.iload_n 2, 1) := by decide +kernel
theorem d_CN_isTrueFor_43 : decode M_CN_isTrueFor.2.1 43 = .ok (.aaload, 1) := by decide +kernel
theorem d_CN_isTrueFor_44 : decode M_CN_isTrueFor.2.1 44 = .ok (.iload_n 3, 1) := by decide +kernel
theorem d_CN_isTrueFor_45 : decode M_CN_isTrueFor.2.1 45 = .ok (.invokevirtual 74, 3) := by decide +kernel
theorem d_CN_isTrueFor_48 : decode M_CN_isTrueFor.2.1 48 = .ok (.aload_n 0, 1) := by decide +kernel
theorem d_CN_isTrueFor_49 : decode M_CN_isTrueFor.2.1 49 = .ok (.getfield 28, 3) := by decide +kernel
theorem d_CN_isTrueFor_52 : decode M_CN_isTrueFor.2.1 52 = .ok (.iload_n 2, 1) := by decide +kernel
theorem d_CN_isTrueFor_53 : decode M_CN_isTrueFor.2.1 53 = .ok (.baload, 1) := by decide +kernel
theorem d_CN_isTrueFor_54 : decode M_CN_isTrueFor.2.1 54 = .ok (.if_icmp .eq 7, 3) := by decide +kernel
theorem d_CN_isTrueFor_57 : decode M_CN_isTrueFor.2.1 57 = .ok (.iconst 1, 1) := by decide +kernel
theorem d_CN_isTrueFor_58 : decode M_CN_isTrueFor.2.1 58 = .ok (.goto 4, 3) := by decide +kernel
theorem d_CN_isTrueFor_61 : decode M_CN_isTrueFor.2.1 61 = .ok (.iconst 0, 1) := by decide +kernel
theorem d_CN_isTrueFor_62 : decode M_CN_isTrueFor.2.1 62 = .ok (.bastore, 1) := by decide +kernel
theorem d_CN_isTrueFor_63 : decode M_CN_isTrueFor.2.1 63 = .ok (.iinc 2 1, 3) := by decide +kernel
theorem d_CN_isTrueFor_66 : decode M_CN_isTrueFor.2.1 66 = .ok (.goto (-55), 3) := by decide +kernel
theorem d_CN_isTrueFor_69 : decode M_CN_isTrueFor.2.1 69 = .ok (.iconst 0, 1) := by decide +kernel
theorem d_CN_isTrueFor_70 : decode M_CN_isTrueFor.2.1 70 = .ok (.istore_n 2, 1) := by decide +kernel
theorem d_CN_isTrueFor_71 : decode M_CN_isTrueFor.2.1 71 = .ok (.iload_n 2, 1) := by decide +kernel
theorem d_CN_isTrueFor_72 : decode M_CN_isTrueFor.2.1 72 = .ok (.aload_n 0, 1) := by decide +kernel
theorem d_CN_isTrueFor_73 : decode M_CN_isTrueFor.2.1 73 = .ok (.getfield 48, 3) := by decide +kernel
theorem d_CN_isTrueFor_76 : decode M_CN_isTrueFor.2.1 76 = .ok (.if_icmp .ge 102, 3) := by decide +kernel
theorem d_CN_isTrueFor_79 : decode M_CN_isTrueFor.2.1 79 = .ok (.aload_n 0, 1) := by decide +kernel
theorem d_CN_isTrueFor_80 : decode M_CN_isTrueFor.2.1 80 = .ok (.getfield 31, 3) := by decide +kernel
theorem d_CN_isTrueFor_83 : decode M_CN_isTrueFor.2.1 83 = .ok (.aload_n 0, 1) := by decide +kernel
theorem d_CN_isTrueFor_84 : decode M_CN_isTrueFor.2.1 84 = .ok (.getfield 17, 3) := by decide +kernel
theorem d_CN_isTrueFor_87 : decode M_CN_isTrueFor.2.1 87 = .ok (.iload_n 2, 1) := by decide +kernel
theorem d_CN_isTrueFor_88 : decode M_CN_isTrueFor.2.1 88 = .ok (.iaload, 1) := by decide +kernel
theorem d_CN_isTrueFor_89 : decode M_CN_isTrueFor.2.1 89 = .ok (.baload, 1) := by decide +kernel
theorem d_CN_isTrueFor_90 : decode M_CN_isTrueFor.2.1 90 = .ok (.istore_n 3, 1) := by decide +kernel
theorem d_CN_isTrueFor_91 : decode M_CN_isTrueFor.2.1 91 = .ok (.aload_n 0, 1) := by decide +kernel
theorem d_CN_isTrueFor_92 : decode M_CN_isTrueFor.2.1 92 = .ok (.getfield 31, 3) := by decide +kernel
theorem d_CN_isTrueFor_95 : decode M_CN_isTrueFor.2.1 95 = .ok (.aload_n 0, 1) := by decide +kernel
theorem d_CN_isTrueFor_96 : decode M_CN_isTrueFor.2.1 96 = .ok (.getfield 21, 3) := by decide +kernel
theorem d_CN_isTrueFor_99 : decode M_CN_isTrueFor.2.1 99 = .ok (.iload_n 2, 1) := by decide +kernel
theorem d_CN_isTrueFor_100 : decode M_CN_isTrueFor.2.1 100 = .ok (.iaload, 1) := by decide +kernel
theorem d_CN_isTrueFor_101 : decode M_CN_isTrueFor.2.1 101 = .ok (.baload, 1) := by decide +kernel
theorem d_CN_isTrueFor_102 : decode M_CN_isTrueFor.2.1 102 = .ok (.istore 4, 2) := by decide +kernel
theorem d_CN_isTrueFor_104 : decode M_CN_isTrueFor.2.1 104 = .ok (.bipush 60, 2) := by decide +kernel
theorem d_CN_isTrueFor_106 : decode M_CN_isTrueFor.2.1 106 = .ok (.iload_n 2, 1) := by decide +kernel
theorem d_CN_isTrueFor_107 : decode M_CN_isTrueFor.2.1 107 = .ok (.iadd, 1) := by decide +kernel
theorem d_CN_isTrueFor_108 : decode M_CN_isTrueFor.2.1 108 = .ok (.istore 5, 2) := by decide +kernel
theorem d_CN_isTrueFor_110 : decode M_CN_isTrueFor.2.1 110 = .ok (.aload_n 0, 1) := by decide +kernel
theorem d_CN_isTrueFor_111 : decode M_CN_isTrueFor.2.1 111 = .ok (.getfield 31, 3) := by decide +kernel
theorem d_CN_isTrueFor_114 : decode M_CN_isTrueFor.2.1 114 = .ok (.iload 5, 2) := by decide +kernel
theorem d_CN_isTrueFor_116 : decode M_CN_isTrueFor.2.1 116 = .ok (.aload_n 0, 1) := by decide +kernel
theorem d_CN_isTrueFor_117 : decode M_CN_isTrueFor.2.1 117 = .ok (.getfield 24, 3) := by decide +kernel
theorem d_CN_isTrueFor_120 : decode M_CN_isTrueFor.2.1 120 = .ok (.iload_n 2, 1) := by decide +kernel
theorem d_CN_isTrueFor_121 : decode M_CN_isTrueFor.2.1 121 = .ok (.baload, 1) := by decide +kernel
theorem d_CN_isTrueFor_122 : decode M_CN_isTrueFor.2.1 122 = .ok (.ifCond .eq 20, 3) := by decide +kernel
theorem d_CN_isTrueFor_125 : decode M_CN_isTrueFor.2.1 125 = .ok (.iload_n 3, 1) := by decide +kernel
theorem d_CN_isTrueFor_126 : decode M_CN_isTrueFor.2.1 126 = .ok (.ifCond .eq 12, 3) := by decide +kernel
theorem d_CN_isTrueFor_129 : decode M_CN_isTrueFor.2.1 129 = .ok (.iload 4, 2) := by decide +kernel
theorem d_CN_isTrueFor_131 : decode M_CN_isTrueFor.2.1 131 = .ok (.ifCond .eq 7, 3) := by decide +kernel
theorem d_CN_isTrueFor_134 : decode M_CN_isTrueFor.2.1 134 = .ok (.iconst 1, 1) := by decide +kernel
theorem d_CN_isTrueFor_135 : decode M_CN_isTrueFor.2.1 135 = .ok (.goto 21, 3) := by decide +kernel
theorem d_CN_isTrueFor_138 : decode M_CN_isTrueFor.2.1 138 = .ok (.iconst 0, 1) := by decide +kernel
theorem d_CN_isTrueFor_139 : decode M_CN_isTrueFor.2.1 139 = .ok (.goto 17, 3) := by decide +kernel
theorem d_CN_isTrueFor_142 : decode M_CN_isTrueFor.2.1 142 = .ok (.iload_n 3, 1) := by decide +kernel
theorem d_CN_isTrueFor_143 : decode M_CN_isTrueFor.2.1 143 = .ok (.ifCond .ne 8, 3) := by decide +kernel
theorem d_CN_isTrueFor_146 : decode M_CN_isTrueFor.2.1 146 = .ok (.iload 4, 2) := by decide +kernel
theorem d_CN_isTrueFor_148 : decode M_CN_isTrueFor.2.1 148 = .ok (.ifCond .eq 7, 3) := by decide +kernel
theorem d_CN_isTrueFor_151 : decode M_CN_isTrueFor.2.1 151 = .ok (.iconst 1, 1) := by decide +kernel
theorem d_CN_isTrueFor_152 : decode M_CN_isTrueFor.2.1 152 = .ok (.goto 4, 3) := by decide +kernel
theorem d_CN_isTrueFor_155 : decode M_CN_isTrueFor.2.1 155 = .ok (.iconst 0, 1) := by decide +kernel
theorem d_CN_isTrueFor_156 : decode M_CN_isTrueFor.2.1 156 = .ok (.aload_n 0, 1) := by decide +kernel
theorem d_CN_isTrueFor_157 : decode M_CN_isTrueFor.2.1 157 = .ok (.getfield 28, 3) := by decide +kernel
theorem d_CN_isTrueFor_160 : decode M_CN_isTrueFor.2.1 160 = .ok (.iload 5, 2) := by decide +kernel
theorem d_CN_isTrueFor_162 : decode M_CN_isTrueFor.2.1 162 = .ok (.baload, 1) := by decide +kernel
theorem d_CN_isTrueFor_163 : decode M_CN_isTrueFor.2.1 163 = .ok (.if_icmp .eq 7, 3) := by decide +kernel
theorem d_CN_isTrueFor_166 : decode M_CN_isTrueFor.2.1 166 = .ok (.iconst 1, 1) := by decide +kernel
theorem d_CN_isTrueFor_167 : decode M_CN_isTrueFor.2.1 167 = .ok (.goto 4, 3) := by decide +kernel
theorem d_CN_isTrueFor_170 : decode M_CN_isTrueFor.2.1 170 = .ok (.iconst 0, 1) := by decide +kernel
theorem d_CN_isTrueFor_171 : decode M_CN_isTrueFor.2.1 171 = .ok (.bastore, 1) := by decide +kernel
theorem d_CN_isTrueFor_172 : decode M_CN_isTrueFor.2.1 172 = .ok (.iinc 2 1, 3) := by decide +kernel
theorem d_CN_isTrueFor_175 : decode M_CN_isTrueFor.2.1 175 = .ok (.goto (-104), 3) := by decide +kernel
theorem d_CN_isTrueFor_178 : decode M_CN_isTrueFor.2.1 178 = .ok (.aload_n 0, 1) := by decide +kernel
theorem d_CN_isTrueFor_179 : decode M_CN_isTrueFor.2.1 179 = .ok (.getfield 31, 3) := by decide +kernel
theorem d_CN_isTrueFor_182 : decode M_CN_isTrueFor.2.1 182 = .ok (.aload_n 0, 1) := by decide +kernel
theorem d_CN_isTrueFor_183 : decode M_CN_isTrueFor.2.1 183 = .ok (.getfield 48, 3) := by decide +kernel
theorem d_CN_isTrueFor_186 : decode M_CN_isTrueFor.2.1 186 = .ok (.ifCond .ne 7, 3) := by decide +kernel
theorem d_CN_isTrueFor_189 : decode M_CN_isTrueFor.2.1 189 = .ok (.iconst 0, 1) := by decide +kernel
theorem d_CN_isTrueFor_190 : decode M_CN_isTrueFor.2.1 190 = .ok (.goto 12, 3) := by decide +kernel
theorem d_CN_isTrueFor_193 : decode M_CN_isTrueFor.2.1 193 = .ok (.bipush 60, 2) := by decide +kernel
theorem d_CN_isTrueFor_195 : decode M_CN_isTrueFor.2.1 195 = .ok (.aload_n 0, 1) := by decide +kernel
theorem d_CN_isTrueFor_196 : decode M_CN_isTrueFor.2.1 196 = .ok (.getfield 48, 3) := by decide +kernel
theorem d_CN_isTrueFor_199 : decode M_CN_isTrueFor.2.1 199 = .ok (.iadd, 1) := by decide +kernel
theorem d_CN_isTrueFor_200 : decode M_CN_isTrueFor.2.1 200 = .ok (.iconst 1, 1) := by decide +kernel
theorem d_CN_isTrueFor_201 : decode M_CN_isTrueFor.2.1 201 = .ok (.isub, 1) := by decide +kernel
theorem d_CN_isTrueFor_202 : decode M_CN_isTrueFor.2.1 202 = .ok (.baload, 1) := by decide +kernel
theorem d_CN_isTrueFor_203 : decode M_CN_isTrueFor.2.1 203 = .ok (.ireturn, 1) := by decide +kernel
theorem k_CN_isTrueFor : x_kV M_CN_isTrueFor "QuestionReader$Condition" 1 := ⟨⟨by decide, Or.inl ⟨w_1039, rfl⟩⟩, w_1037, w_1038, ⟨by decide, by decide⟩, by decide +kernel⟩
def M_QU_isAsked : x_M := (⟨"QuestionReader$Question", "isAsked", "()Z"⟩, prog_10_method_4_code, 1, some (.boolean), [])
theorem d_QU_isAsked_0 : decode M_QU_isAsked.2.1 0 = .ok (.aload_n 0, 1) := by decide +kernel
theorem d_QU_isAsked_1 : decode M_QU_isAsked.2.1 1 = .ok (.getfield 34, 3) := by decide +kernel
theorem d_QU_isAsked_4 : decode M_QU_isAsked.2.1 4 = .ok (.ifCond .le 7, 3) := by decide +kernel
theorem d_QU_isAsked_7 : decode M_QU_isAsked.2.1 7 = .ok (.iconst 1, 1) := by decide +kernel
theorem d_QU_isAsked_8 : decode M_QU_isAsked.2.1 8 = .ok (.goto 4, 3) := by decide +kernel
theorem d_QU_isAsked_11 : decode M_QU_isAsked.2.1 11 = .ok (.iconst 0, 1) := by decide +kernel
theorem d_QU_isAsked_12 : decode M_QU_isAsked.2.1 12 = .ok (.ireturn, 1) := by decide +kernel
theorem k_QU_isAsked : x_kV M_QU_isAsked "QuestionReader$Question" 0 := ⟨⟨by decide, Or.inl ⟨w_1034, rfl⟩⟩, w_1032, w_1033, ⟨by decide, by decide⟩, by decide +kernel⟩
def B_NM_letterAt_25   (s0 : Int32) (m : x_m) : Option (Int32 × x_m) := some (s0, m)
theorem b_NM_letterAt_25 {G : x_G} {ex : Bool} {r : Int32 × x_m}   {s0 : Int32} {m : x_m} (h : B_NM_letterAt_25 s0 m = some r) : x_W G M_NM_letterAt (x_rd 0) (x_Q G (x_rd 0) ex (x_pi r)) ex x_np (x_hp m) 0 0 [] [.int s0] 25 := by
  unfold B_NM_letterAt_25 at h
  cases h
  exact x_ri d_NM_letterAt_25 rfl rfl
def F_NM_letterAt  (a1 : Int32) (a2 : Int32) (m : x_m) : Option (Int32 × x_m) := (if x_ix a1 48 = true then (if (m.2.1 7 a1.toNatClampNeg) ≤ a2 then B_NM_letterAt_25 ((-1)) m else (if x_ix ((a1 * 40) + a2) 1920 = true then B_NM_letterAt_25 (m.2.1 6 ((a1 * 40) + a2).toNatClampNeg) m else none)) else none)
theorem c_NM_letterAt {G : x_G} {ex : Bool} {r : Int32 × x_m}  {a1 : Int32} {a2 : Int32} {m : x_m} (h : F_NM_letterAt a1 a2 m = some r) : x_R G M_NM_letterAt (x_rd 0) ex [.ref 5, .int a1, .int a2] x_np (x_hp m) (x_pi r) := by
  unfold F_NM_letterAt at h
  show x_W G M_NM_letterAt (x_rd 0) (x_Q G (x_rd 0) ex (x_pi r)) ex x_np (x_hp m) 0 0 [(0, .ref 5), (1, .int a1), (2, .int a2)] [] 0
  refine x_iload_n d_NM_letterAt_0 rfl rfl ?_
  refine x_aload_n d_NM_letterAt_1 rfl rfl ?_
  refine x_gC d_NM_letterAt_2 (f_NM_15 rfl) sh_NM hp_NM rfl ?_
  refine x_iload_n d_NM_letterAt_5 rfl rfl ?_
  obtain ⟨g_6, h⟩ := x_gd h
  refine x_lI d_NM_letterAt_6 rfl sa_NM_lengths ha_NM_lengths g_6 ?_
  refine x_icmp_ge (tgt := 24) d_NM_letterAt_7 (by decide) (fun c_ => ?_) (fun c_ => ?_)
  · replace h := x_it h c_
    refine x_iconst (v := (-1)) d_NM_letterAt_24 (by decide) ?_
    refine x_sbk [] (lv2 := []) rfl ?_; exact b_NM_letterAt_25 h
  · replace h := x_ie h c_
    refine x_aload_n d_NM_letterAt_10 rfl rfl ?_
    refine x_gC d_NM_letterAt_11 (f_NM_11 rfl) sh_NM hp_NM rfl ?_
    refine x_iload_n d_NM_letterAt_14 rfl rfl ?_
    refine x_bipush (v := 40) d_NM_letterAt_15 (by decide) ?_
    refine x_imul d_NM_letterAt_17 ?_
    refine x_iload_n d_NM_letterAt_18 rfl rfl ?_
    refine x_iadd d_NM_letterAt_19 ?_
    obtain ⟨g_20, h⟩ := x_gd h
    refine x_lB d_NM_letterAt_20 rfl sa_NM_letters ha_NM_letters g_20 ?_
    refine x_goto (tgt := 25) d_NM_letterAt_21 (by decide) ?_
    refine x_sbk [] (lv2 := []) rfl ?_; exact b_NM_letterAt_25 h
def B_CP_isListed_2 (p : Nat)  : Nat → Int32 → Int32 → x_m → Option (Int32 × x_m)
  | 0, _, _, _ => none
  | f_ + 1, l1, l2, m => (if (m.1 p 4) ≤ l2 then some (0, m) else (if x_ix l2 40 = true then (if (m.2.1 (p + 1) l2.toNatClampNeg) = l1 then some (1, m) else (B_CP_isListed_2 p f_) l1 (l2 + 1) m) else none))
theorem b_CP_isListed_2 {G : x_G} {ex : Bool} {r : Int32 × x_m} {p : Nat} (hp : x_CP p)  : ∀ (f_ : Nat) (l1 : Int32) (l2 : Int32) (m : x_m), B_CP_isListed_2 p f_ l1 l2 m = some r → x_W G M_CP_isListed (x_rd 0) (x_Q G (x_rd 0) ex (x_pi r)) ex x_np (x_hp m) 0 0 [(0, .ref p), (1, .int l1), (2, .int l2)] [] 2 := by
  intro f_
  induction f_ with
  | zero => intro l1 l2 m h; exact nomatch h
  | succ f_ ih =>
    intro l1 l2 m h
    rw [B_CP_isListed_2] at h
    have hK2 := ih
    refine x_iload_n d_CP_isListed_2 rfl rfl ?_
    refine x_aload_n d_CP_isListed_3 rfl rfl ?_
    refine x_gI d_CP_isListed_4 (f_CP_21 rfl) (sh_CP hp) (hp_CP hp) rfl ?_
    refine x_icmp_ge (tgt := 28) d_CP_isListed_7 (by decide) (fun c_ => ?_) (fun c_ => ?_)
    · replace h := x_it h c_
      refine x_iconst (v := 0) d_CP_isListed_28 (by decide) ?_
      cases h
      exact x_ri d_CP_isListed_29 rfl rfl
    · replace h := x_ie h c_
      refine x_aload_n d_CP_isListed_10 rfl rfl ?_
      refine x_gC d_CP_isListed_11 (f_CP_9 rfl) (sh_CP hp) (hp_CP hp) rfl ?_
      refine x_iload_n d_CP_isListed_14 rfl rfl ?_
      obtain ⟨g_15, h⟩ := x_gd h
      refine x_lI d_CP_isListed_15 rfl (sa_CP_list hp) (ha_CP_list hp) g_15 ?_
      refine x_iload_n d_CP_isListed_16 rfl rfl ?_
      refine x_icmp_ne (tgt := 22) d_CP_isListed_17 (by decide) (fun c_ => ?_) (fun c_ => ?_)
      · replace h := x_ie h c_
        refine x_iinc (v := l2 + 1) (lv2 := [(0, .ref p), (1, .int l1), (2, .int (l2 + 1))]) d_CP_isListed_22 rfl rfl (by decide) rfl ?_
        refine x_goto (tgt := 2) d_CP_isListed_25 (by decide) ?_
        exact hK2 _ _ _ h
      · replace h := x_it h c_
        refine x_iconst (v := 1) d_CP_isListed_20 (by decide) ?_
        cases h
        exact x_ri d_CP_isListed_21 rfl rfl
def F_CP_isListed (p : Nat) (a1 : Int32) (m : x_m) : Option (Int32 × x_m) := B_CP_isListed_2 p x_fu a1 0 m
theorem c_CP_isListed {G : x_G} {ex : Bool} {r : Int32 × x_m} {p : Nat} (hp : x_CP p) {a1 : Int32} {m : x_m} (h : F_CP_isListed p a1 m = some r) : x_R G M_CP_isListed (x_rd 0) ex [.ref p, .int a1] x_np (x_hp m) (x_pi r) := by
  unfold F_CP_isListed at h
  show x_W G M_CP_isListed (x_rd 0) (x_Q G (x_rd 0) ex (x_pi r)) ex x_np (x_hp m) 0 0 [(0, .ref p), (1, .int a1)] [] 0
  refine x_iconst (v := 0) d_CP_isListed_0 (by decide) ?_
  refine x_istore_n (lv2 := [(0, .ref p), (1, .int a1), (2, .int 0)]) d_CP_isListed_1 rfl (by decide) rfl ?_
  exact b_CP_isListed_2 hp _ _ _ _ h
def B_CP_accepts_50 (p : Nat)  (s0 : Int32) (m : x_m) : Option (Int32 × x_m) := (if x_b1 s0 = true then some (s0, m) else none)
theorem b_CP_accepts_50 {G : x_G} {ex : Bool} {r : Int32 × x_m} {p : Nat} (hp : x_CP p)  {s0 : Int32} {m : x_m} (h : B_CP_accepts_50 p s0 m = some r) : x_W G M_CP_accepts (x_rd 1) (x_Q G (x_rd 1) ex (x_pi r)) ex x_np (x_hp m) 0 0 [] [.int s0] 50 := by
  unfold B_CP_accepts_50 at h
  obtain ⟨g_50, h⟩ := x_gd h
  cases h
  exact x_ri d_CP_accepts_50 rfl (x_b1_ok g_50).1
def B_CP_accepts_36 (p : Nat)  (s0 : Int32) (m : x_m) : Option (Int32 × x_m) := (if s0 = (m.1 p 1) then B_CP_accepts_50 p 0 m else B_CP_accepts_50 p 1 m)
theorem b_CP_accepts_36 {G : x_G} {ex : Bool} {r : Int32 × x_m} {p : Nat} (hp : x_CP p)  {s0 : Int32} {m : x_m} (h : B_CP_accepts_36 p s0 m = some r) : x_W G M_CP_accepts (x_rd 1) (x_Q G (x_rd 1) ex (x_pi r)) ex x_np (x_hp m) 0 0 [(0, .ref p)] [.int s0] 36 := by
  unfold B_CP_accepts_36 at h
  refine x_istore_n (lv2 := [(0, .ref p), (2, .int s0)]) d_CP_accepts_36 rfl (by decide) rfl ?_
  refine x_iload_n d_CP_accepts_37 rfl rfl ?_
  refine x_aload_n d_CP_accepts_38 rfl rfl ?_
  refine x_gI d_CP_accepts_39 (f_CP_17 rfl) (sh_CP hp) (hp_CP hp) rfl ?_
  refine x_icmp_eq (tgt := 49) d_CP_accepts_42 (by decide) (fun c_ => ?_) (fun c_ => ?_)
  · replace h := x_it h c_
    refine x_iconst (v := 0) d_CP_accepts_49 (by decide) ?_
    refine x_sbk [] (lv2 := []) rfl ?_; exact b_CP_accepts_50 hp h
  · replace h := x_ie h c_
    refine x_iconst (v := 1) d_CP_accepts_45 (by decide) ?_
    refine x_goto (tgt := 50) d_CP_accepts_46 (by decide) ?_
    refine x_sbk [] (lv2 := []) rfl ?_; exact b_CP_accepts_50 hp h
def B_CP_accepts_27 (p : Nat)   (m : x_m) : Option (Int32 × x_m) := B_CP_accepts_36 p 0 m
theorem b_CP_accepts_27 {G : x_G} {ex : Bool} {r : Int32 × x_m} {p : Nat} (hp : x_CP p)   {m : x_m} (h : B_CP_accepts_27 p m = some r) : x_W G M_CP_accepts (x_rd 1) (x_Q G (x_rd 1) ex (x_pi r)) ex x_np (x_hp m) 0 0 [(0, .ref p)] [] 27 := by
  unfold B_CP_accepts_27 at h
  refine x_iconst (v := 0) d_CP_accepts_27 (by decide) ?_
  refine x_goto (tgt := 36) d_CP_accepts_28 (by decide) ?_
  exact b_CP_accepts_36 hp h
def F_CP_accepts (p : Nat) (a1 : Int32) (m : x_m) : Option (Int32 × x_m) := (if (m.1 p 4) = 0 then (if a1 < (m.1 p 2) then B_CP_accepts_27 p m else (if (m.1 p 3) < a1 then B_CP_accepts_27 p m else B_CP_accepts_36 p 1 m)) else ((F_CP_isListed p a1 m).bind fun r33 => B_CP_accepts_36 p r33.1 r33.2))
theorem c_CP_accepts {G : x_G} {ex : Bool} {r : Int32 × x_m} {p : Nat} (hp : x_CP p) {a1 : Int32} {m : x_m} (h : F_CP_accepts p a1 m = some r) : x_R G M_CP_accepts (x_rd 1) ex [.ref p, .int a1] x_np (x_hp m) (x_pi r) := by
  unfold F_CP_accepts at h
  show x_W G M_CP_accepts (x_rd 1) (x_Q G (x_rd 1) ex (x_pi r)) ex x_np (x_hp m) 0 0 [(0, .ref p), (1, .int a1)] [] 0
  refine x_aload_n d_CP_accepts_0 rfl rfl ?_
  refine x_gI d_CP_accepts_1 (f_CP_21 rfl) (sh_CP hp) (hp_CP hp) rfl ?_
  refine x_if_ne (tgt := 31) d_CP_accepts_4 (by decide) (fun c_ => ?_) (fun c_ => ?_)
  · replace h := x_ie h c_
    refine x_aload_n d_CP_accepts_31 rfl rfl ?_
    refine x_iload_n d_CP_accepts_32 rfl rfl ?_
    obtain ⟨r33, e33, h⟩ := x_bd h
    refine x_cVi (M2 := M_CP_isListed) (As := [.int a1]) (st := []) d_CP_accepts_33 w_1049 k_CP_isListed (c_CP_isListed hp e33) rfl (sh_CP hp) (hp_CP hp) rfl ⟨Nat.le_of_ble_eq_true rfl, Nat.le_of_ble_eq_true rfl⟩ (Nat.le_of_ble_eq_true rfl) (Nat.le_of_ble_eq_true rfl) rfl ?_
    refine x_sbk [0] (lv2 := [(0, .ref p)]) rfl ?_; exact b_CP_accepts_36 hp h
  · replace h := x_it h c_
    refine x_aload_n d_CP_accepts_7 rfl rfl ?_
    refine x_gI d_CP_accepts_8 (f_CP_24 rfl) (sh_CP hp) (hp_CP hp) rfl ?_
    refine x_iload_n d_CP_accepts_11 rfl rfl ?_
    refine x_icmp_gt (tgt := 27) d_CP_accepts_12 (by decide) (fun c_ => ?_) (fun c_ => ?_)
    · replace h := x_it h c_
      refine x_sbk [0] (lv2 := [(0, .ref p)]) rfl ?_; exact b_CP_accepts_27 hp h
    · replace h := x_ie h c_
      refine x_iload_n d_CP_accepts_15 rfl rfl ?_
      refine x_aload_n d_CP_accepts_16 rfl rfl ?_
      refine x_gI d_CP_accepts_17 (f_CP_27 rfl) (sh_CP hp) (hp_CP hp) rfl ?_
      refine x_icmp_gt (tgt := 27) d_CP_accepts_20 (by decide) (fun c_ => ?_) (fun c_ => ?_)
      · replace h := x_it h c_
        refine x_sbk [0] (lv2 := [(0, .ref p)]) rfl ?_; exact b_CP_accepts_27 hp h
      · replace h := x_ie h c_
        refine x_iconst (v := 1) d_CP_accepts_23 (by decide) ?_
        refine x_goto (tgt := 36) d_CP_accepts_24 (by decide) ?_
        refine x_sbk [0] (lv2 := [(0, .ref p)]) rfl ?_; exact b_CP_accepts_36 hp h
def F_CT_pickedValue  (a1 : Int32) (m : x_m) : Option (Int32 × x_m) := ((F_CT_dimensionOf a1 m).bind fun r5 => (if x_ix r5.1 8 = true then ((F_CT_levelOf a1 r5.2).bind fun r12 => ((F_DM_valueAt (9 + 13 * r5.1.toNatClampNeg) r12.1 (r12.2.1 (9 + 13 * r5.1.toNatClampNeg) 2) r12.2).bind fun r19 => some (r19.1, r19.2))) else none))
theorem c_CT_pickedValue {G : x_G} {ex : Bool} {r : Int32 × x_m}  {a1 : Int32} {m : x_m} (h : F_CT_pickedValue a1 m = some r) : x_R G M_CT_pickedValue (x_rd 1) ex [.ref 4, .int a1] x_np (x_hp m) (x_pi r) := by
  unfold F_CT_pickedValue at h
  show x_W G M_CT_pickedValue (x_rd 1) (x_Q G (x_rd 1) ex (x_pi r)) ex x_np (x_hp m) 0 0 [(0, .ref 4), (1, .int a1)] [] 0
  refine x_aload_n d_CT_pickedValue_0 rfl rfl ?_
  refine x_gC d_CT_pickedValue_1 (f_CT_20 rfl) sh_CT hp_CT rfl ?_
  refine x_iload_n d_CT_pickedValue_4 rfl rfl ?_
  obtain ⟨r5, e5, h⟩ := x_bd h
  refine x_cSi (M2 := M_CT_dimensionOf) (As := [.int a1]) (st := [.ref 8]) d_CT_pickedValue_5 w_985 k_CT_dimensionOf (c_CT_dimensionOf e5) rfl ⟨Nat.le_of_ble_eq_true rfl, Nat.le_of_ble_eq_true rfl⟩ (Nat.le_of_ble_eq_true rfl) (Nat.le_of_ble_eq_true rfl) rfl ?_
  obtain ⟨g_8, h⟩ := x_gd h
  refine x_lR (b := 9 + 13 * r5.1.toNatClampNeg) d_CT_pickedValue_8 rfl sa_CT_dimensions ha_CT_dimensions g_8 (if_pos (x_ix_lt g_8)) ?_
  refine x_astore_n (lv2 := [(0, .ref 4), (1, .int a1), (2, .ref (9 + 13 * r5.1.toNatClampNeg))]) d_CT_pickedValue_9 rfl (by decide) rfl ?_
  refine x_aload_n d_CT_pickedValue_10 rfl rfl ?_
  refine x_iload_n d_CT_pickedValue_11 rfl rfl ?_
  obtain ⟨r12, e12, h⟩ := x_bd h
  refine x_cSi (M2 := M_CT_levelOf) (As := [.int a1]) (st := [.ref (9 + 13 * r5.1.toNatClampNeg)]) d_CT_pickedValue_12 w_988 k_CT_levelOf (c_CT_levelOf e12) rfl ⟨Nat.le_of_ble_eq_true rfl, Nat.le_of_ble_eq_true rfl⟩ (Nat.le_of_ble_eq_true rfl) (Nat.le_of_ble_eq_true rfl) rfl ?_
  refine x_aload_n d_CT_pickedValue_15 rfl rfl ?_
  refine x_gI d_CT_pickedValue_16 (f_CT_64 rfl) (sh_DM (x_DM_of (x_ix_lt g_8))) (hp_DM (x_DM_of (x_ix_lt g_8))) rfl ?_
  obtain ⟨r19, e19, h⟩ := x_bd h
  refine x_cVi (M2 := M_DM_valueAt) (As := [.int r12.1, .int (r12.2.1 (9 + 13 * r5.1.toNatClampNeg) 2)]) (st := []) d_CT_pickedValue_19 w_1044 k_DM_valueAt (c_DM_valueAt (x_DM_of (x_ix_lt g_8)) e19) rfl (sh_DM (x_DM_of (x_ix_lt g_8))) (hp_DM (x_DM_of (x_ix_lt g_8))) rfl ⟨Nat.le_of_ble_eq_true rfl, Nat.le_of_ble_eq_true rfl⟩ (Nat.le_of_ble_eq_true rfl) (Nat.le_of_ble_eq_true rfl) rfl ?_
  cases h
  exact x_ri d_CT_pickedValue_22 rfl rfl
def B_CN_isTrueFor_202 (p : Nat)  (s0 : Int32) (m : x_m) : Option (Int32 × x_m) := (if x_ix s0 119 = true then (if x_b1 (m.2.1 (p + 6) s0.toNatClampNeg) = true then some (m.2.1 (p + 6) s0.toNatClampNeg, m) else none) else none)
theorem b_CN_isTrueFor_202 {G : x_G} {ex : Bool} {r : Int32 × x_m} {p : Nat} (hp : x_CN p)  {s0 : Int32} {m : x_m} (h : B_CN_isTrueFor_202 p s0 m = some r) : x_W G M_CN_isTrueFor (x_rd 2) (x_Q G (x_rd 2) ex (x_pi r)) ex x_np (x_hp m) 0 0 [] [.int s0, .ref (p + 6)] 202 := by
  unfold B_CN_isTrueFor_202 at h
  obtain ⟨g_202, h⟩ := x_gd h
  refine x_lZ d_CN_isTrueFor_202 rfl (sa_CN_truths hp) (ha_CN_truths hp) g_202 ?_
  obtain ⟨g_203, h⟩ := x_gd h
  cases h
  exact x_ri d_CN_isTrueFor_203 rfl (x_b1_ok g_203).1
def B_CN_isTrueFor_171 (p : Nat) (K71 : Int32 → x_m → Option (Int32 × x_m)) (l2 : Int32) (s0 : Int32) (s1 : Int32) (m : x_m) : Option (Int32 × x_m) := (if x_ix s1 119 = true then K71 (l2 + 1) (x_wA m (p + 6) s1.toNatClampNeg (vp_nar .boolean s0)) else none)
theorem b_CN_isTrueFor_171 {G : x_G} {ex : Bool} {r : Int32 × x_m} {p : Nat} (hp : x_CN p) {K71 : Int32 → x_m → Option (Int32 × x_m)} (hK71 : ∀ (l2 : Int32) (m : x_m), K71 l2 m = some r → x_W G M_CN_isTrueFor (x_rd 2) (x_Q G (x_rd 2) ex (x_pi r)) ex x_np (x_hp m) 0 0 [(0, .ref p), (2, .int l2)] [] 71) {l2 : Int32} {s0 : Int32} {s1 : Int32} {m : x_m} (h : B_CN_isTrueFor_171 p K71 l2 s0 s1 m = some r) : x_W G M_CN_isTrueFor (x_rd 2) (x_Q G (x_rd 2) ex (x_pi r)) ex x_np (x_hp m) 0 0 [(0, .ref p), (2, .int l2)] [.int s0, .int s1, .ref (p + 6)] 171 := by
  unfold B_CN_isTrueFor_171 at h
  obtain ⟨g_171, h⟩ := x_gd h
  refine x_sZ d_CN_isTrueFor_171 rfl (sa_CN_truths hp) (ha_CN_truths hp) g_171 ?_
  refine x_iinc (v := l2 + 1) (lv2 := [(0, .ref p), (2, .int (l2 + 1))]) d_CN_isTrueFor_172 rfl rfl (by decide) rfl ?_
  refine x_goto (tgt := 71) d_CN_isTrueFor_175 (by decide) ?_
  exact hK71 _ _ h
def B_CN_isTrueFor_156 (p : Nat) (K71 : Int32 → x_m → Option (Int32 × x_m)) (l2 : Int32) (l5 : Int32) (s0 : Int32) (s1 : Int32) (m : x_m) : Option (Int32 × x_m) := (if x_ix l5 119 = true then (if s0 = (m.2.1 (p + 5) l5.toNatClampNeg) then B_CN_isTrueFor_171 p K71 l2 0 s1 m else B_CN_isTrueFor_171 p K71 l2 1 s1 m) else none)
theorem b_CN_isTrueFor_156 {G : x_G} {ex : Bool} {r : Int32 × x_m} {p : Nat} (hp : x_CN p) {K71 : Int32 → x_m → Option (Int32 × x_m)} (hK71 : ∀ (l2 : Int32) (m : x_m), K71 l2 m = some r → x_W G M_CN_isTrueFor (x_rd 2) (x_Q G (x_rd 2) ex (x_pi r)) ex x_np (x_hp m) 0 0 [(0, .ref p), (2, .int l2)] [] 71) {l2 : Int32} {l5 : Int32} {s0 : Int32} {s1 : Int32} {m : x_m} (h : B_CN_isTrueFor_156 p K71 l2 l5 s0 s1 m = some r) : x_W G M_CN_isTrueFor (x_rd 2) (x_Q G (x_rd 2) ex (x_pi r)) ex x_np (x_hp m) 0 0 [(0, .ref p), (2, .int l2), (5, .int l5)] [.int s0, .int s1, .ref (p + 6)] 156 := by
  unfold B_CN_isTrueFor_156 at h
  refine x_aload_n d_CN_isTrueFor_156 rfl rfl ?_
  refine x_gC d_CN_isTrueFor_157 (f_CN_28 rfl) (sh_CN hp) (hp_CN hp) rfl ?_
  refine x_iload d_CN_isTrueFor_160 rfl ?_
  obtain ⟨g_162, h⟩ := x_gd h
  refine x_lZ d_CN_isTrueFor_162 rfl (sa_CN_isNegated hp) (ha_CN_isNegated hp) g_162 ?_
  refine x_icmp_eq (tgt := 170) d_CN_isTrueFor_163 (by decide) (fun c_ => ?_) (fun c_ => ?_)
  · replace h := x_it h c_
    refine x_iconst (v := 0) d_CN_isTrueFor_170 (by decide) ?_
    refine x_sbk [0, 1] (lv2 := [(0, .ref p), (2, .int l2)]) rfl ?_; exact b_CN_isTrueFor_171 hp hK71 h
  · replace h := x_ie h c_
    refine x_iconst (v := 1) d_CN_isTrueFor_166 (by decide) ?_
    refine x_goto (tgt := 171) d_CN_isTrueFor_167 (by decide) ?_
    refine x_sbk [0, 1] (lv2 := [(0, .ref p), (2, .int l2)]) rfl ?_; exact b_CN_isTrueFor_171 hp hK71 h
def B_CN_isTrueFor_151 (p : Nat) (K71 : Int32 → x_m → Option (Int32 × x_m)) (l2 : Int32) (l5 : Int32) (s0 : Int32) (m : x_m) : Option (Int32 × x_m) := B_CN_isTrueFor_156 p K71 l2 l5 1 s0 m
theorem b_CN_isTrueFor_151 {G : x_G} {ex : Bool} {r : Int32 × x_m} {p : Nat} (hp : x_CN p) {K71 : Int32 → x_m → Option (Int32 × x_m)} (hK71 : ∀ (l2 : Int32) (m : x_m), K71 l2 m = some r → x_W G M_CN_isTrueFor (x_rd 2) (x_Q G (x_rd 2) ex (x_pi r)) ex x_np (x_hp m) 0 0 [(0, .ref p), (2, .int l2)] [] 71) {l2 : Int32} {l5 : Int32} {s0 : Int32} {m : x_m} (h : B_CN_isTrueFor_151 p K71 l2 l5 s0 m = some r) : x_W G M_CN_isTrueFor (x_rd 2) (x_Q G (x_rd 2) ex (x_pi r)) ex x_np (x_hp m) 0 0 [(0, .ref p), (2, .int l2), (5, .int l5)] [.int s0, .ref (p + 6)] 151 := by
  unfold B_CN_isTrueFor_151 at h
  refine x_iconst (v := 1) d_CN_isTrueFor_151 (by decide) ?_
  refine x_goto (tgt := 156) d_CN_isTrueFor_152 (by decide) ?_
  exact b_CN_isTrueFor_156 hp hK71 h
def B_CN_isTrueFor_138 (p : Nat) (K71 : Int32 → x_m → Option (Int32 × x_m)) (l2 : Int32) (l5 : Int32) (s0 : Int32) (m : x_m) : Option (Int32 × x_m) := B_CN_isTrueFor_156 p K71 l2 l5 0 s0 m
theorem b_CN_isTrueFor_138 {G : x_G} {ex : Bool} {r : Int32 × x_m} {p : Nat} (hp : x_CN p) {K71 : Int32 → x_m → Option (Int32 × x_m)} (hK71 : ∀ (l2 : Int32) (m : x_m), K71 l2 m = some r → x_W G M_CN_isTrueFor (x_rd 2) (x_Q G (x_rd 2) ex (x_pi r)) ex x_np (x_hp m) 0 0 [(0, .ref p), (2, .int l2)] [] 71) {l2 : Int32} {l5 : Int32} {s0 : Int32} {m : x_m} (h : B_CN_isTrueFor_138 p K71 l2 l5 s0 m = some r) : x_W G M_CN_isTrueFor (x_rd 2) (x_Q G (x_rd 2) ex (x_pi r)) ex x_np (x_hp m) 0 0 [(0, .ref p), (2, .int l2), (5, .int l5)] [.int s0, .ref (p + 6)] 138 := by
  unfold B_CN_isTrueFor_138 at h
  refine x_iconst (v := 0) d_CN_isTrueFor_138 (by decide) ?_
  refine x_goto (tgt := 156) d_CN_isTrueFor_139 (by decide) ?_
  exact b_CN_isTrueFor_156 hp hK71 h
def B_CN_isTrueFor_71 (p : Nat)  : Nat → Int32 → x_m → Option (Int32 × x_m)
  | 0, _, _ => none
  | f_ + 1, l2, m => (if (m.1 p 3) ≤ l2 then (if (m.1 p 3) = 0 then B_CN_isTrueFor_202 p 0 m else B_CN_isTrueFor_202 p ((60 + (m.1 p 3)) - 1) m) else (if x_ix l2 59 = true then (if x_ix (m.2.1 (p + 2) l2.toNatClampNeg) 119 = true then (if x_ix l2 59 = true then (if x_ix (m.2.1 (p + 3) l2.toNatClampNeg) 119 = true then (if x_ix l2 59 = true then (if (m.2.1 (p + 4) l2.toNatClampNeg) = 0 then (if (m.2.1 (p + 6) (m.2.1 (p + 2) l2.toNatClampNeg).toNatClampNeg) = 0 then (if (m.2.1 (p + 6) (m.2.1 (p + 3) l2.toNatClampNeg).toNatClampNeg) = 0 then B_CN_isTrueFor_156 p (B_CN_isTrueFor_71 p f_) l2 (60 + l2) 0 (60 + l2) m else B_CN_isTrueFor_151 p (B_CN_isTrueFor_71 p f_) l2 (60 + l2) (60 + l2) m) else B_CN_isTrueFor_151 p (B_CN_isTrueFor_71 p f_) l2 (60 + l2) (60 + l2) m) else (if (m.2.1 (p + 6) (m.2.1 (p + 2) l2.toNatClampNeg).toNatClampNeg) = 0 then B_CN_isTrueFor_138 p (B_CN_isTrueFor_71 p f_) l2 (60 + l2) (60 + l2) m else (if (m.2.1 (p + 6) (m.2.1 (p + 3) l2.toNatClampNeg).toNatClampNeg) = 0 then B_CN_isTrueFor_138 p (B_CN_isTrueFor_71 p f_) l2 (60 + l2) (60 + l2) m else B_CN_isTrueFor_156 p (B_CN_isTrueFor_71 p f_) l2 (60 + l2) 1 (60 + l2) m))) else none) else none) else none) else none) else none))
theorem b_CN_isTrueFor_71 {G : x_G} {ex : Bool} {r : Int32 × x_m} {p : Nat} (hp : x_CN p)  : ∀ (f_ : Nat) (l2 : Int32) (m : x_m), B_CN_isTrueFor_71 p f_ l2 m = some r → x_W G M_CN_isTrueFor (x_rd 2) (x_Q G (x_rd 2) ex (x_pi r)) ex x_np (x_hp m) 0 0 [(0, .ref p), (2, .int l2)] [] 71 := by
  intro f_
  induction f_ with
  | zero => intro l2 m h; exact nomatch h
  | succ f_ ih =>
    intro l2 m h
    rw [B_CN_isTrueFor_71] at h
    have hK71 := ih
    refine x_iload_n d_CN_isTrueFor_71 rfl rfl ?_
    refine x_aload_n d_CN_isTrueFor_72 rfl rfl ?_
    refine x_gI d_CN_isTrueFor_73 (f_CN_48 rfl) (sh_CN hp) (hp_CN hp) rfl ?_
    refine x_icmp_ge (tgt := 178) d_CN_isTrueFor_76 (by decide) (fun c_ => ?_) (fun c_ => ?_)
    · replace h := x_it h c_
      refine x_aload_n d_CN_isTrueFor_178 rfl rfl ?_
      refine x_gC d_CN_isTrueFor_179 (f_CN_31 rfl) (sh_CN hp) (hp_CN hp) rfl ?_
      refine x_aload_n d_CN_isTrueFor_182 rfl rfl ?_
      refine x_gI d_CN_isTrueFor_183 (f_CN_48 rfl) (sh_CN hp) (hp_CN hp) rfl ?_
      refine x_if_ne (tgt := 193) d_CN_isTrueFor_186 (by decide) (fun c_ => ?_) (fun c_ => ?_)
      · replace h := x_ie h c_
        refine x_bipush (v := 60) d_CN_isTrueFor_193 (by decide) ?_
        refine x_aload_n d_CN_isTrueFor_195 rfl rfl ?_
        refine x_gI d_CN_isTrueFor_196 (f_CN_48 rfl) (sh_CN hp) (hp_CN hp) rfl ?_
        refine x_iadd d_CN_isTrueFor_199 ?_
        refine x_iconst (v := 1) d_CN_isTrueFor_200 (by decide) ?_
        refine x_isub d_CN_isTrueFor_201 ?_
        refine x_sbk [] (lv2 := []) rfl ?_; exact b_CN_isTrueFor_202 hp h
      · replace h := x_it h c_
        refine x_iconst (v := 0) d_CN_isTrueFor_189 (by decide) ?_
        refine x_goto (tgt := 202) d_CN_isTrueFor_190 (by decide) ?_
        refine x_sbk [] (lv2 := []) rfl ?_; exact b_CN_isTrueFor_202 hp h
    · replace h := x_ie h c_
      refine x_aload_n d_CN_isTrueFor_79 rfl rfl ?_
      refine x_gC d_CN_isTrueFor_80 (f_CN_31 rfl) (sh_CN hp) (hp_CN hp) rfl ?_
      refine x_aload_n d_CN_isTrueFor_83 rfl rfl ?_
      refine x_gC d_CN_isTrueFor_84 (f_CN_17 rfl) (sh_CN hp) (hp_CN hp) rfl ?_
      refine x_iload_n d_CN_isTrueFor_87 rfl rfl ?_
      obtain ⟨g_88, h⟩ := x_gd h
      refine x_lI d_CN_isTrueFor_88 rfl (sa_CN_lefts hp) (ha_CN_lefts hp) g_88 ?_
      obtain ⟨g_89, h⟩ := x_gd h
      refine x_lZ d_CN_isTrueFor_89 rfl (sa_CN_truths hp) (ha_CN_truths hp) g_89 ?_
      refine x_istore_n (lv2 := [(0, .ref p), (2, .int l2), (3, .int (m.2.1 (p + 6) (m.2.1 (p + 2) l2.toNatClampNeg).toNatClampNeg))]) d_CN_isTrueFor_90 rfl (by decide) rfl ?_
      refine x_aload_n d_CN_isTrueFor_91 rfl rfl ?_
      refine x_gC d_CN_isTrueFor_92 (f_CN_31 rfl) (sh_CN hp) (hp_CN hp) rfl ?_
      refine x_aload_n d_CN_isTrueFor_95 rfl rfl ?_
      refine x_gC d_CN_isTrueFor_96 (f_CN_21 rfl) (sh_CN hp) (hp_CN hp) rfl ?_
      refine x_iload_n d_CN_isTrueFor_99 rfl rfl ?_
      obtain ⟨g_100, h⟩ := x_gd h
      refine x_lI d_CN_isTrueFor_100 rfl (sa_CN_rights hp) (ha_CN_rights hp) g_100 ?_
      obtain ⟨g_101, h⟩ := x_gd h
      refine x_lZ d_CN_isTrueFor_101 rfl (sa_CN_truths hp) (ha_CN_truths hp) g_101 ?_
      refine x_istore (lv2 := [(0, .ref p), (2, .int l2), (3, .int (m.2.1 (p + 6) (m.2.1 (p + 2) l2.toNatClampNeg).toNatClampNeg)), (4, .int (m.2.1 (p + 6) (m.2.1 (p + 3) l2.toNatClampNeg).toNatClampNeg))]) d_CN_isTrueFor_102 (by decide) rfl ?_
      refine x_bipush (v := 60) d_CN_isTrueFor_104 (by decide) ?_
      refine x_iload_n d_CN_isTrueFor_106 rfl rfl ?_
      refine x_iadd d_CN_isTrueFor_107 ?_
      refine x_istore (lv2 := [(0, .ref p), (2, .int l2), (3, .int (m.2.1 (p + 6) (m.2.1 (p + 2) l2.toNatClampNeg).toNatClampNeg)), (4, .int (m.2.1 (p + 6) (m.2.1 (p + 3) l2.toNatClampNeg).toNatClampNeg)), (5, .int (60 + l2))]) d_CN_isTrueFor_108 (by decide) rfl ?_
      refine x_aload_n d_CN_isTrueFor_110 rfl rfl ?_
      refine x_gC d_CN_isTrueFor_111 (f_CN_31 rfl) (sh_CN hp) (hp_CN hp) rfl ?_
      refine x_iload d_CN_isTrueFor_114 rfl ?_
      refine x_aload_n d_CN_isTrueFor_116 rfl rfl ?_
      refine x_gC d_CN_isTrueFor_117 (f_CN_24 rfl) (sh_CN hp) (hp_CN hp) rfl ?_
      refine x_iload_n d_CN_isTrueFor_120 rfl rfl ?_
      obtain ⟨g_121, h⟩ := x_gd h
      refine x_lZ d_CN_isTrueFor_121 rfl (sa_CN_isAnd hp) (ha_CN_isAnd hp) g_121 ?_
      refine x_if_eq (tgt := 142) d_CN_isTrueFor_122 (by decide) (fun c_ => ?_) (fun c_ => ?_)
      · replace h := x_it h c_
        refine x_iload_n d_CN_isTrueFor_142 rfl rfl ?_
        refine x_if_ne (tgt := 151) d_CN_isTrueFor_143 (by decide) (fun c_ => ?_) (fun c_ => ?_)
        · replace h := x_ie h c_
          refine x_sbk [0, 1, 4] (lv2 := [(0, .ref p), (2, .int l2), (5, .int (60 + l2))]) rfl ?_; exact b_CN_isTrueFor_151 hp hK71 h
        · replace h := x_it h c_
          refine x_iload d_CN_isTrueFor_146 rfl ?_
          refine x_if_eq (tgt := 155) d_CN_isTrueFor_148 (by decide) (fun c_ => ?_) (fun c_ => ?_)
          · replace h := x_it h c_
            refine x_iconst (v := 0) d_CN_isTrueFor_155 (by decide) ?_
            refine x_sbk [0, 1, 4] (lv2 := [(0, .ref p), (2, .int l2), (5, .int (60 + l2))]) rfl ?_; exact b_CN_isTrueFor_156 hp hK71 h
          · replace h := x_ie h c_
            refine x_sbk [0, 1, 4] (lv2 := [(0, .ref p), (2, .int l2), (5, .int (60 + l2))]) rfl ?_; exact b_CN_isTrueFor_151 hp hK71 h
      · replace h := x_ie h c_
        refine x_iload_n d_CN_isTrueFor_125 rfl rfl ?_
        refine x_if_eq (tgt := 138) d_CN_isTrueFor_126 (by decide) (fun c_ => ?_) (fun c_ => ?_)
        · replace h := x_it h c_
          refine x_sbk [0, 1, 4] (lv2 := [(0, .ref p), (2, .int l2), (5, .int (60 + l2))]) rfl ?_; exact b_CN_isTrueFor_138 hp hK71 h
        · replace h := x_ie h c_
          refine x_iload d_CN_isTrueFor_129 rfl ?_
          refine x_if_eq (tgt := 138) d_CN_isTrueFor_131 (by decide) (fun c_ => ?_) (fun c_ => ?_)
          · replace h := x_it h c_
            refine x_sbk [0, 1, 4] (lv2 := [(0, .ref p), (2, .int l2), (5, .int (60 + l2))]) rfl ?_; exact b_CN_isTrueFor_138 hp hK71 h
          · replace h := x_ie h c_
            refine x_iconst (v := 1) d_CN_isTrueFor_134 (by decide) ?_
            refine x_goto (tgt := 156) d_CN_isTrueFor_135 (by decide) ?_
            refine x_sbk [0, 1, 4] (lv2 := [(0, .ref p), (2, .int l2), (5, .int (60 + l2))]) rfl ?_; exact b_CN_isTrueFor_156 hp hK71 h
def B_CN_isTrueFor_62 (p : Nat) (K11 : Int32 → x_m → Option (Int32 × x_m)) (l2 : Int32) (s0 : Int32) (s1 : Int32) (m : x_m) : Option (Int32 × x_m) := (if x_ix s1 119 = true then K11 (l2 + 1) (x_wA m (p + 6) s1.toNatClampNeg (vp_nar .boolean s0)) else none)
theorem b_CN_isTrueFor_62 {G : x_G} {ex : Bool} {r : Int32 × x_m} {p : Nat} (hp : x_CN p) {K11 : Int32 → x_m → Option (Int32 × x_m)} (hK11 : ∀ (l2 : Int32) (m : x_m), K11 l2 m = some r → x_W G M_CN_isTrueFor (x_rd 2) (x_Q G (x_rd 2) ex (x_pi r)) ex x_np (x_hp m) 0 0 [(0, .ref p), (1, .ref 4), (2, .int l2)] [] 11) {l2 : Int32} {s0 : Int32} {s1 : Int32} {m : x_m} (h : B_CN_isTrueFor_62 p K11 l2 s0 s1 m = some r) : x_W G M_CN_isTrueFor (x_rd 2) (x_Q G (x_rd 2) ex (x_pi r)) ex x_np (x_hp m) 0 0 [(0, .ref p), (1, .ref 4), (2, .int l2)] [.int s0, .int s1, .ref (p + 6)] 62 := by
  unfold B_CN_isTrueFor_62 at h
  obtain ⟨g_62, h⟩ := x_gd h
  refine x_sZ d_CN_isTrueFor_62 rfl (sa_CN_truths hp) (ha_CN_truths hp) g_62 ?_
  refine x_iinc (v := l2 + 1) (lv2 := [(0, .ref p), (1, .ref 4), (2, .int (l2 + 1))]) d_CN_isTrueFor_63 rfl rfl (by decide) rfl ?_
  refine x_goto (tgt := 11) d_CN_isTrueFor_66 (by decide) ?_
  exact hK11 _ _ h
def B_CN_isTrueFor_11 (p : Nat)  : Nat → Int32 → x_m → Option (Int32 × x_m)
  | 0, _, _ => none
  | f_ + 1, l2, m => (if (m.1 p 0) ≤ l2 then B_CN_isTrueFor_71 p x_fu 0 m else (if x_ix l2 60 = true then ((F_CT_pickedValue (m.1 (p + 10 + 2 * l2.toNatClampNeg) 0) m).bind fun r29 => (if x_ix l2 60 = true then ((F_CP_accepts (p + 10 + 2 * l2.toNatClampNeg) r29.1 r29.2).bind fun r45 => (if x_ix l2 119 = true then (if r45.1 = (r45.2.2.1 (p + 5) l2.toNatClampNeg) then B_CN_isTrueFor_62 p (B_CN_isTrueFor_11 p f_) l2 0 l2 r45.2 else B_CN_isTrueFor_62 p (B_CN_isTrueFor_11 p f_) l2 1 l2 r45.2) else none)) else none)) else none))
theorem b_CN_isTrueFor_11 {G : x_G} {ex : Bool} {r : Int32 × x_m} {p : Nat} (hp : x_CN p)  : ∀ (f_ : Nat) (l2 : Int32) (m : x_m), B_CN_isTrueFor_11 p f_ l2 m = some r → x_W G M_CN_isTrueFor (x_rd 2) (x_Q G (x_rd 2) ex (x_pi r)) ex x_np (x_hp m) 0 0 [(0, .ref p), (1, .ref 4), (2, .int l2)] [] 11 := by
  intro f_
  induction f_ with
  | zero => intro l2 m h; exact nomatch h
  | succ f_ ih =>
    intro l2 m h
    rw [B_CN_isTrueFor_11] at h
    have hK11 := ih
    refine x_iload_n d_CN_isTrueFor_11 rfl rfl ?_
    refine x_aload_n d_CN_isTrueFor_12 rfl rfl ?_
    refine x_gI d_CN_isTrueFor_13 (f_CN_44 rfl) (sh_CN hp) (hp_CN hp) rfl ?_
    refine x_icmp_ge (tgt := 69) d_CN_isTrueFor_16 (by decide) (fun c_ => ?_) (fun c_ => ?_)
    · replace h := x_it h c_
      refine x_iconst (v := 0) d_CN_isTrueFor_69 (by decide) ?_
      refine x_istore_n (lv2 := [(0, .ref p), (1, .ref 4), (2, .int 0)]) d_CN_isTrueFor_70 rfl (by decide) rfl ?_
      refine x_sbk [0, 2] (lv2 := [(0, .ref p), (2, .int 0)]) rfl ?_; exact b_CN_isTrueFor_71 hp _ _ _ h
    · replace h := x_ie h c_
      refine x_aload_n d_CN_isTrueFor_19 rfl rfl ?_
      refine x_aload_n d_CN_isTrueFor_20 rfl rfl ?_
      refine x_gC d_CN_isTrueFor_21 (f_CN_13 rfl) (sh_CN hp) (hp_CN hp) rfl ?_
      refine x_iload_n d_CN_isTrueFor_24 rfl rfl ?_
      obtain ⟨g_25, h⟩ := x_gd h
      refine x_lR (b := p + 10 + 2 * l2.toNatClampNeg) d_CN_isTrueFor_25 rfl (sa_CN_comparisons hp) (ha_CN_comparisons hp) g_25 (if_pos (x_ix_lt g_25)) ?_
      refine x_gI d_CN_isTrueFor_26 (f_CN_65 rfl) (sh_CP (x_CP_of hp (x_ix_lt g_25))) (hp_CP (x_CP_of hp (x_ix_lt g_25))) rfl ?_
      obtain ⟨r29, e29, h⟩ := x_bd h
      refine x_cVi (M2 := M_CT_pickedValue) (As := [.int (m.1 (p + 10 + 2 * l2.toNatClampNeg) 0)]) (st := []) d_CN_isTrueFor_29 w_1040 k_CT_pickedValue (c_CT_pickedValue e29) rfl sh_CT hp_CT rfl ⟨Nat.le_of_ble_eq_true rfl, Nat.le_of_ble_eq_true rfl⟩ (Nat.le_of_ble_eq_true rfl) (Nat.le_of_ble_eq_true rfl) rfl ?_
      refine x_istore_n (lv2 := [(0, .ref p), (1, .ref 4), (2, .int l2), (3, .int r29.1)]) d_CN_isTrueFor_32 rfl (by decide) rfl ?_
      refine x_aload_n d_CN_isTrueFor_33 rfl rfl ?_
      refine x_gC d_CN_isTrueFor_34 (f_CN_31 rfl) (sh_CN hp) (hp_CN hp) rfl ?_
      refine x_iload_n d_CN_isTrueFor_37 rfl rfl ?_
      refine x_aload_n d_CN_isTrueFor_38 rfl rfl ?_
      refine x_gC d_CN_isTrueFor_39 (f_CN_13 rfl) (sh_CN hp) (hp_CN hp) rfl ?_
      refine x_iload_n d_CN_isTrueFor_42 rfl rfl ?_
      obtain ⟨g_43, h⟩ := x_gd h
      refine x_lR (b := p + 10 + 2 * l2.toNatClampNeg) d_CN_isTrueFor_43 rfl (sa_CN_comparisons hp) (ha_CN_comparisons hp) g_43 (if_pos (x_ix_lt g_43)) ?_
      refine x_iload_n d_CN_isTrueFor_44 rfl rfl ?_
      obtain ⟨r45, e45, h⟩ := x_bd h
      refine x_cVi (M2 := M_CP_accepts) (As := [.int r29.1]) (st := [.int l2, .ref (p + 6)]) d_CN_isTrueFor_45 w_1045 k_CP_accepts (c_CP_accepts (x_CP_of hp (x_ix_lt g_43)) e45) rfl (sh_CP (x_CP_of hp (x_ix_lt g_43))) (hp_CP (x_CP_of hp (x_ix_lt g_43))) rfl ⟨Nat.le_of_ble_eq_true rfl, Nat.le_of_ble_eq_true rfl⟩ (Nat.le_of_ble_eq_true rfl) (Nat.le_of_ble_eq_true rfl) rfl ?_
      refine x_aload_n d_CN_isTrueFor_48 rfl rfl ?_
      refine x_gC d_CN_isTrueFor_49 (f_CN_28 rfl) (sh_CN hp) (hp_CN hp) rfl ?_
      refine x_iload_n d_CN_isTrueFor_52 rfl rfl ?_
      obtain ⟨g_53, h⟩ := x_gd h
      refine x_lZ d_CN_isTrueFor_53 rfl (sa_CN_isNegated hp) (ha_CN_isNegated hp) g_53 ?_
      refine x_icmp_eq (tgt := 61) d_CN_isTrueFor_54 (by decide) (fun c_ => ?_) (fun c_ => ?_)
      · replace h := x_it h c_
        refine x_iconst (v := 0) d_CN_isTrueFor_61 (by decide) ?_
        refine x_sbk [0, 1, 2] (lv2 := [(0, .ref p), (1, .ref 4), (2, .int l2)]) rfl ?_; exact b_CN_isTrueFor_62 hp hK11 h
      · replace h := x_ie h c_
        refine x_iconst (v := 1) d_CN_isTrueFor_57 (by decide) ?_
        refine x_goto (tgt := 62) d_CN_isTrueFor_58 (by decide) ?_
        refine x_sbk [0, 1, 2] (lv2 := [(0, .ref p), (1, .ref 4), (2, .int l2)]) rfl ?_; exact b_CN_isTrueFor_62 hp hK11 h
def F_CN_isTrueFor (p : Nat)  (m : x_m) : Option (Int32 × x_m) := (if (m.1 p 0) = 0 then some (1, m) else B_CN_isTrueFor_11 p x_fu 0 m)
theorem c_CN_isTrueFor {G : x_G} {ex : Bool} {r : Int32 × x_m} {p : Nat} (hp : x_CN p)  {m : x_m} (h : F_CN_isTrueFor p m = some r) : x_R G M_CN_isTrueFor (x_rd 2) ex [.ref p, .ref 4] x_np (x_hp m) (x_pi r) := by
  unfold F_CN_isTrueFor at h
  show x_W G M_CN_isTrueFor (x_rd 2) (x_Q G (x_rd 2) ex (x_pi r)) ex x_np (x_hp m) 0 0 [(0, .ref p), (1, .ref 4)] [] 0
  refine x_aload_n d_CN_isTrueFor_0 rfl rfl ?_
  refine x_gI d_CN_isTrueFor_1 (f_CN_44 rfl) (sh_CN hp) (hp_CN hp) rfl ?_
  refine x_if_ne (tgt := 9) d_CN_isTrueFor_4 (by decide) (fun c_ => ?_) (fun c_ => ?_)
  · replace h := x_ie h c_
    refine x_iconst (v := 0) d_CN_isTrueFor_9 (by decide) ?_
    refine x_istore_n (lv2 := [(0, .ref p), (1, .ref 4), (2, .int 0)]) d_CN_isTrueFor_10 rfl (by decide) rfl ?_
    exact b_CN_isTrueFor_11 hp _ _ _ h
  · replace h := x_it h c_
    refine x_iconst (v := 1) d_CN_isTrueFor_7 (by decide) ?_
    cases h
    exact x_ri d_CN_isTrueFor_8 rfl rfl
def B_QU_isAsked_12 (p : Nat)  (s0 : Int32) (m : x_m) : Option (Int32 × x_m) := (if x_b1 s0 = true then some (s0, m) else none)
theorem b_QU_isAsked_12 {G : x_G} {ex : Bool} {r : Int32 × x_m} {p : Nat} (hp : x_QB p)  {s0 : Int32} {m : x_m} (h : B_QU_isAsked_12 p s0 m = some r) : x_W G M_QU_isAsked (x_rd 0) (x_Q G (x_rd 0) ex (x_pi r)) ex x_np (x_hp m) 0 0 [] [.int s0] 12 := by
  unfold B_QU_isAsked_12 at h
  obtain ⟨g_12, h⟩ := x_gd h
  cases h
  exact x_ri d_QU_isAsked_12 rfl (x_b1_ok g_12).1
def F_QU_isAsked (p : Nat)  (m : x_m) : Option (Int32 × x_m) := (if (m.1 p 0) ≤ 0 then B_QU_isAsked_12 p 0 m else B_QU_isAsked_12 p 1 m)
theorem c_QU_isAsked {G : x_G} {ex : Bool} {r : Int32 × x_m} {p : Nat} (hp : x_QB p)  {m : x_m} (h : F_QU_isAsked p m = some r) : x_R G M_QU_isAsked (x_rd 0) ex [.ref p] x_np (x_hp m) (x_pi r) := by
  unfold F_QU_isAsked at h
  show x_W G M_QU_isAsked (x_rd 0) (x_Q G (x_rd 0) ex (x_pi r)) ex x_np (x_hp m) 0 0 [(0, .ref p)] [] 0
  refine x_aload_n d_QU_isAsked_0 rfl rfl ?_
  refine x_gI d_QU_isAsked_1 (f_QU_34 rfl) (sh_QU hp) (hp_QU hp) rfl ?_
  refine x_if_le (tgt := 11) d_QU_isAsked_4 (by decide) (fun c_ => ?_) (fun c_ => ?_)
  · replace h := x_it h c_
    refine x_iconst (v := 0) d_QU_isAsked_11 (by decide) ?_
    refine x_sbk [] (lv2 := []) rfl ?_; exact b_QU_isAsked_12 hp h
  · replace h := x_ie h c_
    refine x_iconst (v := 1) d_QU_isAsked_7 (by decide) ?_
    refine x_goto (tgt := 12) d_QU_isAsked_8 (by decide) ?_
    refine x_sbk [] (lv2 := []) rfl ?_; exact b_QU_isAsked_12 hp h
