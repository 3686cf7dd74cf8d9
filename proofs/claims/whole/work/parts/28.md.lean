def M_MD_find : x_M := (⟨"QuestionReaderModel", "find", "(II)I"⟩, prog_14_method_54_code, 5, some (.int), [])
theorem d_MD_find_0 : decode M_MD_find.2.1 0 = .ok (.aload_n 0, 1) := by decide +kernel
theorem d_MD_find_1 : decode M_MD_find.2.1 1 = .ok (.iload_n 1, 1) := by decide +kernel
theorem d_MD_find_2 : decode M_MD_find.2.1 2 = .ok (.invokevirtual 305, 3) := by decide +kernel
theorem d_MD_find_5 : decode M_MD_find.2.1 5 = .ok (.istore_n 3, 1) := by decide +kernel
theorem d_MD_find_6 : decode M_MD_find.2.1 6 = .ok (.aload_n 0, 1) := by decide +kernel
theorem d_MD_find_7 : decode M_MD_find.2.1 7 = .ok (.iload_n 3, 1) := by decide +kernel
theorem d_MD_find_8 : decode M_MD_find.2.1 8 = .ok (.ifCond .ne 7, 3) := by decide +kernel
theorem d_MD_find_11 : decode M_MD_find.2.1 11 = .ok (.iconst 1, 1) := by decide +kernel
theorem d_MD_find_12 : decode M_MD_find.2.1 12 = .ok (.goto 15, 3) := by decide +kernel
theorem d_MD_find_15 : decode M_MD_find.2.1 15 = .ok (.aload_n 0, 1) := by decide +kernel
theorem d_MD_find_16 : decode M_MD_find.2.1 16 = .ok (.getfield 284, 3) := by decide +kernel
theorem d_MD_find_19 : decode M_MD_find.2.1 19 = .ok (.ifCond .ne 7, 3) := by decide +kernel
theorem d_MD_find_22 : decode M_MD_find.2.1 22 = .ok (.iconst 2, 1) := by decide +kernel
theorem d_MD_find_23 : decode M_MD_find.2.1 23 = .ok (.goto 4, 3) := by decide +kernel
theorem d_MD_find_26 : decode M_MD_find.2.1 26 = .ok (.iconst 0, 1) := by decide +kernel
theorem d_MD_find_27 : decode M_MD_find.2.1 27 = .ok (.putfield 57, 3) := by decide +kernel
theorem d_MD_find_30 : decode M_MD_find.2.1 30 = .ok (.aload_n 0, 1) := by decide +kernel
theorem d_MD_find_31 : decode M_MD_find.2.1 31 = .ok (.getfield 57, 3) := by decide +kernel
theorem d_MD_find_34 : decode M_MD_find.2.1 34 = .ok (.ifCond .le 5, 3) := by decide +kernel
theorem d_MD_find_37 : decode M_MD_find.2.1 37 = .ok (.iconst 0, 1) := by decide +kernel
theorem d_MD_find_38 : decode M_MD_find.2.1 38 = .ok (.ireturn, 1) := by decide +kernel
theorem d_MD_find_39 : decode M_MD_find.2.1 39 = .ok (.iconst 0, 1) := by decide +kernel
theorem d_MD_find_40 : decode M_MD_find.2.1 40 = .ok (.istore 4, 2) := by decide +kernel
theorem d_MD_find_42 : decode M_MD_find.2.1 42 = .ok (.iload 4, 2) := by decide +kernel
theorem d_MD_find_44 : decode M_MD_find.2.1 44 = .ok (.aload_n 0, 1) := by decide +kernel
theorem d_MD_find_45 : decode M_MD_find.2.1 45 = .ok (.getfield 28, 3) := by decide +kernel
theorem d_MD_find_48 : decode M_MD_find.2.1 48 = .ok (.iload_n 1, 1) := by decide +kernel
theorem d_MD_find_49 : decode M_MD_find.2.1 49 = .ok (.iaload, 1) := by decide +kernel
theorem d_MD_find_50 : decode M_MD_find.2.1 50 = .ok (.if_icmp .ge 24, 3) := by decide +kernel
theorem d_MD_find_53 : decode M_MD_find.2.1 53 = .ok (.aload_n 0, 1) := by decide +kernel
theorem d_MD_find_54 : decode M_MD_find.2.1 54 = .ok (.iload_n 1, 1) := by decide +kernel
theorem d_MD_find_55 : decode M_MD_find.2.1 55 = .ok (.iconst 0, 1) := by decide +kernel
theorem d_MD_find_56 : decode M_MD_find.2.1 56 = .ok (.iload 4, 2) := by decide +kernel
theorem d_MD_find_58 : decode M_MD_find.2.1 58 = .ok (.invokevirtual 312, 3) := by decide +kernel
theorem d_MD_find_61 : decode M_MD_find.2.1 61 = .ok (.iload_n 2, 1) := by decide +kernel
theorem d_MD_find_62 : decode M_MD_find.2.1 62 = .ok (.if_icmp .ne 6, 3) := by decide +kernel
theorem d_MD_find_65 : decode M_MD_find.2.1 65 = .ok (.iload 4, 2) := by decide +kernel
theorem d_MD_find_67 : decode M_MD_find.2.1 67 = .ok (.ireturn, 1) := by decide +kernel
theorem d_MD_find_68 : decode M_MD_find.2.1 68 = .ok (.iinc 4 1, 3) := by decide +kernel
theorem d_MD_find_71 : decode M_MD_find.2.1 71 = .ok (.goto (-29), 3) := by decide +kernel
theorem d_MD_find_74 : decode M_MD_find.2.1 74 = .ok (.iconst (-1), 1) := by decide +kernel
theorem d_MD_find_75 : decode M_MD_find.2.1 75 = .ok (.ireturn, 1) := by decide +kernel
theorem k_MD_find : x_kV M_MD_find "QuestionReaderModel" 2 := ⟨⟨by decide, Or.inl ⟨w_1482, rfl⟩⟩, w_1480, w_1481, ⟨by decide, by decide⟩, by decide +kernel⟩
def M_MD_isNamed : x_M := (⟨"QuestionReaderModel", "isNamed", "(I)Z"⟩, prog_14_method_55_code, 2, some (.boolean), [])
theorem d_MD_isNamed_0 : decode M_MD_isNamed.2.1 0 = .ok (.iload_n 1, 1) := by decide +kernel
theorem d_MD_isNamed_1 : decode M_MD_isNamed.2.1 1 = .ok (.bipush 40, 2) := by decide +kernel
theorem d_MD_isNamed_3 : decode M_MD_isNamed.2.1 3 = .ok (.if_icmp .lt 20, 3) := by decide +kernel
theorem d_MD_isNamed_6 : decode M_MD_isNamed.2.1 6 = .ok (.iload_n 1, 1) := by decide +kernel
theorem d_MD_isNamed_7 : decode M_MD_isNamed.2.1 7 = .ok (.bipush 40, 2) := by decide +kernel
theorem d_MD_isNamed_9 : decode M_MD_isNamed.2.1 9 = .ok (.aload_n 0, 1) := by decide +kernel
theorem d_MD_isNamed_10 : decode M_MD_isNamed.2.1 10 = .ok (.getfield 157, 3) := by decide +kernel
theorem d_MD_isNamed_13 : decode M_MD_isNamed.2.1 13 = .ok (.iadd, 1) := by decide +kernel
theorem d_MD_isNamed_14 : decode M_MD_isNamed.2.1 14 = .ok (.if_icmp .ge 7, 3) := by decide +kernel
theorem d_MD_isNamed_17 : decode M_MD_isNamed.2.1 17 = .ok (.iconst 1, 1) := by decide +kernel
theorem d_MD_isNamed_18 : decode M_MD_isNamed.2.1 18 = .ok (.goto 4, 3) := by decide +kernel
theorem d_MD_isNamed_21 : decode M_MD_isNamed.2.1 21 = .ok (.iconst 0, 1) := by decide +kernel
theorem d_MD_isNamed_22 : decode M_MD_isNamed.2.1 22 = .ok (.ireturn, 1) := by decide +kernel
theorem d_MD_isNamed_23 : decode M_MD_isNamed.2.1 23 = .ok (.iload_n 1, 1) := by decide +kernel
theorem d_MD_isNamed_24 : decode M_MD_isNamed.2.1 24 = .ok (.bipush 8, 2) := by decide +kernel
theorem d_MD_isNamed_26 : decode M_MD_isNamed.2.1 26 = .ok (.if_icmp .lt 40, 3) := by decide +kernel
theorem d_MD_isNamed_29 : decode M_MD_isNamed.2.1 29 = .ok (.iload_n 1, 1) := by decide +kernel
theorem d_MD_isNamed_30 : decode M_MD_isNamed.2.1 30 = .ok (.bipush 8, 2) := by decide +kernel
theorem d_MD_isNamed_32 : decode M_MD_isNamed.2.1 32 = .ok (.iconst 4, 1) := by decide +kernel
theorem d_MD_isNamed_33 : decode M_MD_isNamed.2.1 33 = .ok (.aload_n 0, 1) := by decide +kernel
theorem d_MD_isNamed_34 : decode M_MD_isNamed.2.1 34 = .ok (.getfield 150, 3) := by decide +kernel
theorem d_MD_isNamed_37 : decode M_MD_isNamed.2.1 37 = .ok (.imul, 1) := by decide +kernel
theorem d_MD_isNamed_38 : decode M_MD_isNamed.2.1 38 = .ok (.iadd, 1) := by decide +kernel
theorem d_MD_isNamed_39 : decode M_MD_isNamed.2.1 39 = .ok (.if_icmp .ge 23, 3) := by decide +kernel
theorem d_MD_isNamed_42 : decode M_MD_isNamed.2.1 42 = .ok (.iload_n 1, 1) := by decide +kernel
theorem d_MD_isNamed_43 : decode M_MD_isNamed.2.1 43 = .ok (.iconst 3, 1) := by decide +kernel
theorem d_MD_isNamed_44 : decode M_MD_isNamed.2.1 44 = .ok (.iand, 1) := by decide +kernel
theorem d_MD_isNamed_45 : decode M_MD_isNamed.2.1 45 = .ok (.aload_n 0, 1) := by decide +kernel
theorem d_MD_isNamed_46 : decode M_MD_isNamed.2.1 46 = .ok (.getfield 24, 3) := by decide +kernel
theorem d_MD_isNamed_49 : decode M_MD_isNamed.2.1 49 = .ok (.iload_n 1, 1) := by decide +kernel
theorem d_MD_isNamed_50 : decode M_MD_isNamed.2.1 50 = .ok (.iconst 4, 1) := by decide +kernel
theorem d_MD_isNamed_51 : decode M_MD_isNamed.2.1 51 = .ok (.idiv, 1) := by decide +kernel
theorem d_MD_isNamed_52 : decode M_MD_isNamed.2.1 52 = .ok (.iconst 2, 1) := by decide +kernel
theorem d_MD_isNamed_53 : decode M_MD_isNamed.2.1 53 = .ok (.isub, 1) := by decide +kernel
theorem d_MD_isNamed_54 : decode M_MD_isNamed.2.1 54 = .ok (.iaload, 1) := by decide +kernel
theorem d_MD_isNamed_55 : decode M_MD_isNamed.2.1 55 = .ok (.if_icmp .ge 7, 3) := by decide +kernel
theorem d_MD_isNamed_58 : decode M_MD_isNamed.2.1 58 = .ok (.iconst 1, 1) := by decide +kernel
theorem d_MD_isNamed_59 : decode M_MD_isNamed.2.1 59 = .ok (.goto 24, 3) := by decide +kernel
theorem d_MD_isNamed_62 : decode M_MD_isNamed.2.1 62 = .ok (.iconst 0, 1) := by decide +kernel
theorem d_MD_isNamed_63 : decode M_MD_isNamed.2.1 63 = .ok (.goto 20, 3) := by decide +kernel
theorem d_MD_isNamed_66 : decode M_MD_isNamed.2.1 66 = .ok (.iload_n 1, 1) := by decide +kernel
theorem d_MD_isNamed_67 : decode M_MD_isNamed.2.1 67 = .ok (.ifCond .lt 15, 3) := by decide +kernel
theorem d_MD_isNamed_70 : decode M_MD_isNamed.2.1 70 = .ok (.iload_n 1, 1) := by decide +kernel
theorem d_MD_isNamed_71 : decode M_MD_isNamed.2.1 71 = .ok (.aload_n 0, 1) := by decide +kernel
theorem d_MD_isNamed_72 : decode M_MD_isNamed.2.1 72 = .ok (.getfield 150, 3) := by decide +kernel
theorem d_MD_isNamed_75 : decode M_MD_isNamed.2.1 75 = .ok (.if_icmp .ge 7, 3) := by decide +kernel
theorem d_MD_isNamed_78 : decode M_MD_isNamed.2.1 78 = .ok (.iconst 1, 1) := by decide +kernel
theorem d_MD_isNamed_79 : decode M_MD_isNamed.2.1 79 = .ok (.goto 4, 3) := by decide +kernel
theorem d_MD_isNamed_82 : decode M_MD_isNamed.2.1 82 = .ok (.iconst 0, 1) := by decide +kernel
theorem d_MD_isNamed_83 : decode M_MD_isNamed.2.1 83 = .ok (.ireturn, 1) := by decide +kernel
theorem k_MD_isNamed : x_kV M_MD_isNamed "QuestionReaderModel" 1 := ⟨⟨by decide, Or.inl ⟨w_1490, rfl⟩⟩, w_1489, ws_76, ⟨by decide, by decide⟩, by decide +kernel⟩
def M_MD_letter : x_M := (⟨"QuestionReaderModel", "letter", "(II)I"⟩, prog_14_method_56_code, 3, some (.int), [])
theorem d_MD_letter_0 : decode M_MD_letter.2.1 0 = .ok (.aload_n 0, 1) := by decide +kernel
theorem d_MD_letter_1 : decode M_MD_letter.2.1 1 = .ok (.aload_n 0, 1) := by decide +kernel
theorem d_MD_letter_2 : decode M_MD_letter.2.1 2 = .ok (.iload_n 1, 1) := by decide +kernel
theorem d_MD_letter_3 : decode M_MD_letter.2.1 3 = .ok (.invokevirtual 316, 3) := by decide +kernel
theorem d_MD_letter_6 : decode M_MD_letter.2.1 6 = .ok (.ifCond .eq 11, 3) := by decide +kernel
theorem d_MD_letter_9 : decode M_MD_letter.2.1 9 = .ok (.iload_n 2, 1) := by decide +kernel
theorem d_MD_letter_10 : decode M_MD_letter.2.1 10 = .ok (.ifCond .lt 7, 3) := by decide +kernel
theorem d_MD_letter_13 : decode M_MD_letter.2.1 13 = .ok (.iconst 0, 1) := by decide +kernel
theorem d_MD_letter_14 : decode M_MD_letter.2.1 14 = .ok (.goto 4, 3) := by decide +kernel
theorem d_MD_letter_17 : decode M_MD_letter.2.1 17 = .ok (.iconst 1, 1) := by decide +kernel
theorem d_MD_letter_18 : decode M_MD_letter.2.1 18 = .ok (.putfield 57, 3) := by decide +kernel
theorem d_MD_letter_21 : decode M_MD_letter.2.1 21 = .ok (.aload_n 0, 1) := by decide +kernel
theorem d_MD_letter_22 : decode M_MD_letter.2.1 22 = .ok (.getfield 57, 3) := by decide +kernel
theorem d_MD_letter_25 : decode M_MD_letter.2.1 25 = .ok (.ifCond .le 7, 3) := by decide +kernel
theorem d_MD_letter_28 : decode M_MD_letter.2.1 28 = .ok (.iconst 0, 1) := by decide +kernel
theorem d_MD_letter_29 : decode M_MD_letter.2.1 29 = .ok (.goto 28, 3) := by decide +kernel
theorem d_MD_letter_32 : decode M_MD_letter.2.1 32 = .ok (.iload_n 2, 1) := by decide +kernel
theorem d_MD_letter_33 : decode M_MD_letter.2.1 33 = .ok (.aload_n 0, 1) := by decide +kernel
theorem d_MD_letter_34 : decode M_MD_letter.2.1 34 = .ok (.getfield 40, 3) := by decide +kernel
theorem d_MD_letter_37 : decode M_MD_letter.2.1 37 = .ok (.iload_n 1, 1) := by decide +kernel
theorem d_MD_letter_38 : decode M_MD_letter.2.1 38 = .ok (.iaload, 1) := by decide +kernel
theorem d_MD_letter_39 : decode M_MD_letter.2.1 39 = .ok (.if_icmp .ge 17, 3) := by decide +kernel
theorem d_MD_letter_42 : decode M_MD_letter.2.1 42 = .ok (.aload_n 0, 1) := by decide +kernel
theorem d_MD_letter_43 : decode M_MD_letter.2.1 43 = .ok (.getfield 37, 3) := by decide +kernel
theorem d_MD_letter_46 : decode M_MD_letter.2.1 46 = .ok (.bipush 40, 2) := by decide +kernel
theorem d_MD_letter_48 : decode M_MD_letter.2.1 48 = .ok (.iload_n 1, 1) := by decide +kernel
theorem d_MD_letter_49 : decode M_MD_letter.2.1 49 = .ok (.imul, 1) := by decide +kernel
theorem d_MD_letter_50 : decode M_MD_letter.2.1 50 = .ok (.iload_n 2, 1) := by decide +kernel
theorem d_MD_letter_51 : decode M_MD_letter.2.1 51 = .ok (.iadd, 1) := by decide +kernel
theorem d_MD_letter_52 : decode M_MD_letter.2.1 52 = .ok (.baload, 1) := by decide +kernel
theorem d_MD_letter_53 : decode M_MD_letter.2.1 53 = .ok (.goto 4, 3) := by decide +kernel
theorem d_MD_letter_56 : decode M_MD_letter.2.1 56 = .ok (.iconst (-1), 1) := by decide +kernel
theorem d_MD_letter_57 : decode M_MD_letter.2.1 57 = .ok (.ireturn, 1) := by decide +kernel
theorem k_MD_letter : x_kV M_MD_letter "QuestionReaderModel" 2 := ⟨⟨by decide, Or.inl ⟨w_1486, rfl⟩⟩, w_1484, w_1485, ⟨by decide, by decide⟩, by decide +kernel⟩
def M_MD_group : x_M := (⟨"QuestionReaderModel", "group", "(I)I"⟩, prog_14_method_58_code, 2, some (.int), [])
theorem d_MD_group_0 : decode M_MD_group.2.1 0 = .ok (.aload_n 0, 1) := by decide +kernel
theorem d_MD_group_1 : decode M_MD_group.2.1 1 = .ok (.aload_n 0, 1) := by decide +kernel
theorem d_MD_group_2 : decode M_MD_group.2.1 2 = .ok (.getfield 280, 3) := by decide +kernel
theorem d_MD_group_5 : decode M_MD_group.2.1 5 = .ok (.ifCond .eq 22, 3) := by decide +kernel
theorem d_MD_group_8 : decode M_MD_group.2.1 8 = .ok (.iload_n 1, 1) := by decide +kernel
theorem d_MD_group_9 : decode M_MD_group.2.1 9 = .ok (.ifCond .lt 18, 3) := by decide +kernel
theorem d_MD_group_12 : decode M_MD_group.2.1 12 = .ok (.iload_n 1, 1) := by decide +kernel
theorem d_MD_group_13 : decode M_MD_group.2.1 13 = .ok (.aload_n 0, 1) := by decide +kernel
theorem d_MD_group_14 : decode M_MD_group.2.1 14 = .ok (.getfield 46, 3) := by decide +kernel
theorem d_MD_group_17 : decode M_MD_group.2.1 17 = .ok (.getfield 240, 3) := by decide +kernel
theorem d_MD_group_20 : decode M_MD_group.2.1 20 = .ok (.if_icmp .ge 7, 3) := by decide +kernel
theorem d_MD_group_23 : decode M_MD_group.2.1 23 = .ok (.iconst 0, 1) := by decide +kernel
theorem d_MD_group_24 : decode M_MD_group.2.1 24 = .ok (.goto 4, 3) := by decide +kernel
theorem d_MD_group_27 : decode M_MD_group.2.1 27 = .ok (.iconst 1, 1) := by decide +kernel
theorem d_MD_group_28 : decode M_MD_group.2.1 28 = .ok (.putfield 57, 3) := by decide +kernel
theorem d_MD_group_31 : decode M_MD_group.2.1 31 = .ok (.aload_n 0, 1) := by decide +kernel
theorem d_MD_group_32 : decode M_MD_group.2.1 32 = .ok (.getfield 57, 3) := by decide +kernel
theorem d_MD_group_35 : decode M_MD_group.2.1 35 = .ok (.ifCond .le 7, 3) := by decide +kernel
theorem d_MD_group_38 : decode M_MD_group.2.1 38 = .ok (.iconst 0, 1) := by decide +kernel
theorem d_MD_group_39 : decode M_MD_group.2.1 39 = .ok (.goto 12, 3) := by decide +kernel
theorem d_MD_group_42 : decode M_MD_group.2.1 42 = .ok (.aload_n 0, 1) := by decide +kernel
theorem d_MD_group_43 : decode M_MD_group.2.1 43 = .ok (.getfield 46, 3) := by decide +kernel
theorem d_MD_group_46 : decode M_MD_group.2.1 46 = .ok (.getfield 243, 3) := by decide +kernel
theorem d_MD_group_49 : decode M_MD_group.2.1 49 = .ok (.iload_n 1, 1) := by decide +kernel
theorem d_MD_group_50 : decode M_MD_group.2.1 50 = .ok (.iaload, 1) := by decide +kernel
theorem d_MD_group_51 : decode M_MD_group.2.1 51 = .ok (.ireturn, 1) := by decide +kernel
theorem k_MD_group : x_kV M_MD_group "QuestionReaderModel" 1 := ⟨⟨by decide, Or.inl ⟨w_1498, rfl⟩⟩, w_1496, w_1497, ⟨by decide, by decide⟩, by decide +kernel⟩
def M_MD_set : x_M := (⟨"QuestionReaderModel", "set", "(I)I"⟩, prog_14_method_59_code, 2, some (.int), [])
theorem d_MD_set_0 : decode M_MD_set.2.1 0 = .ok (.aload_n 0, 1) := by decide +kernel
theorem d_MD_set_1 : decode M_MD_set.2.1 1 = .ok (.aload_n 0, 1) := by decide +kernel
theorem d_MD_set_2 : decode M_MD_set.2.1 2 = .ok (.getfield 280, 3) := by decide +kernel
theorem d_MD_set_5 : decode M_MD_set.2.1 5 = .ok (.ifCond .eq 22, 3) := by decide +kernel
theorem d_MD_set_8 : decode M_MD_set.2.1 8 = .ok (.iload_n 1, 1) := by decide +kernel
theorem d_MD_set_9 : decode M_MD_set.2.1 9 = .ok (.ifCond .lt 18, 3) := by decide +kernel
theorem d_MD_set_12 : decode M_MD_set.2.1 12 = .ok (.iload_n 1, 1) := by decide +kernel
theorem d_MD_set_13 : decode M_MD_set.2.1 13 = .ok (.aload_n 0, 1) := by decide +kernel
theorem d_MD_set_14 : decode M_MD_set.2.1 14 = .ok (.getfield 46, 3) := by decide +kernel
theorem d_MD_set_17 : decode M_MD_set.2.1 17 = .ok (.getfield 264, 3) := by decide +kernel
theorem d_MD_set_20 : decode M_MD_set.2.1 20 = .ok (.if_icmp .ge 7, 3) := by decide +kernel
theorem d_MD_set_23 : decode M_MD_set.2.1 23 = .ok (.iconst 0, 1) := by decide +kernel
theorem d_MD_set_24 : decode M_MD_set.2.1 24 = .ok (.goto 4, 3) := by decide +kernel
theorem d_MD_set_27 : decode M_MD_set.2.1 27 = .ok (.iconst 1, 1) := by decide +kernel
theorem d_MD_set_28 : decode M_MD_set.2.1 28 = .ok (.putfield 57, 3) := by decide +kernel
theorem d_MD_set_31 : decode M_MD_set.2.1 31 = .ok (.aload_n 0, 1) := by decide +kernel
theorem d_MD_set_32 : decode M_MD_set.2.1 32 = .ok (.getfield 57, 3) := by decide +kernel
theorem d_MD_set_35 : decode M_MD_set.2.1 35 = .ok (.ifCond .le 7, 3) := by decide +kernel
theorem d_MD_set_38 : decode M_MD_set.2.1 38 = .ok (.iconst 0, 1) := by decide +kernel
theorem d_MD_set_39 : decode M_MD_set.2.1 39 = .ok (.goto 12, 3) := by decide +kernel
theorem d_MD_set_42 : decode M_MD_set.2.1 42 = .ok (.aload_n 0, 1) := by decide +kernel
theorem d_MD_set_43 : decode M_MD_set.2.1 43 = .ok (.getfield 46, 3) := by decide +kernel
theorem d_MD_set_46 : decode M_MD_set.2.1 46 = .ok (.getfield 267, 3) := by decide +kernel
theorem d_MD_set_49 : decode M_MD_set.2.1 49 = .ok (.iload_n 1, 1) := by decide +kernel
theorem d_MD_set_50 : decode M_MD_set.2.1 50 = .ok (.iaload, 1) := by decide +kernel
theorem d_MD_set_51 : decode M_MD_set.2.1 51 = .ok (.ireturn, 1) := by decide +kernel
theorem k_MD_set : x_kV M_MD_set "QuestionReaderModel" 1 := ⟨⟨by decide, Or.inl ⟨w_1502, rfl⟩⟩, w_1500, w_1501, ⟨by decide, by decide⟩, by decide +kernel⟩
def M_MD_pick : x_M := (⟨"QuestionReaderModel", "pick", "(II)I"⟩, prog_14_method_60_code, 5, some (.int), [])
theorem d_MD_pick_0 : decode M_MD_pick.2.1 0 = .ok (.aload_n 0, 1) := by decide +kernel
theorem d_MD_pick_1 : decode M_MD_pick.2.1 1 = .ok (.iload_n 1, 1) := by decide +kernel
theorem d_MD_pick_2 : decode M_MD_pick.2.1 2 = .ok (.invokevirtual 305, 3) := by decide +kernel
theorem d_MD_pick_5 : decode M_MD_pick.2.1 5 = .ok (.ifCond .eq 21, 3) := by decide +kernel
theorem d_MD_pick_8 : decode M_MD_pick.2.1 8 = .ok (.iload_n 2, 1) := by decide +kernel
theorem d_MD_pick_9 : decode M_MD_pick.2.1 9 = .ok (.ifCond .lt 17, 3) := by decide +kernel
theorem d_MD_pick_12 : decode M_MD_pick.2.1 12 = .ok (.iload_n 2, 1) := by decide +kernel
theorem d_MD_pick_13 : decode M_MD_pick.2.1 13 = .ok (.aload_n 0, 1) := by decide +kernel
theorem d_MD_pick_14 : decode M_MD_pick.2.1 14 = .ok (.getfield 28, 3) := by decide +kernel
theorem d_MD_pick_17 : decode M_MD_pick.2.1 17 = .ok (.iload_n 1, 1) := by decide +kernel
theorem d_MD_pick_18 : decode M_MD_pick.2.1 18 = .ok (.iaload, 1) := by decide +kernel
theorem d_MD_pick_19 : decode M_MD_pick.2.1 19 = .ok (.if_icmp .ge 7, 3) := by decide +kernel
theorem d_MD_pick_22 : decode M_MD_pick.2.1 22 = .ok (.iconst 1, 1) := by decide +kernel
theorem d_MD_pick_23 : decode M_MD_pick.2.1 23 = .ok (.goto 4, 3) := by decide +kernel
theorem d_MD_pick_26 : decode M_MD_pick.2.1 26 = .ok (.iconst 0, 1) := by decide +kernel
theorem d_MD_pick_27 : decode M_MD_pick.2.1 27 = .ok (.istore_n 3, 1) := by decide +kernel
theorem d_MD_pick_28 : decode M_MD_pick.2.1 28 = .ok (.aload_n 0, 1) := by decide +kernel
theorem d_MD_pick_29 : decode M_MD_pick.2.1 29 = .ok (.iload_n 3, 1) := by decide +kernel
theorem d_MD_pick_30 : decode M_MD_pick.2.1 30 = .ok (.ifCond .ne 7, 3) := by decide +kernel
theorem d_MD_pick_33 : decode M_MD_pick.2.1 33 = .ok (.iconst 1, 1) := by decide +kernel
theorem d_MD_pick_34 : decode M_MD_pick.2.1 34 = .ok (.goto 15, 3) := by decide +kernel
theorem d_MD_pick_37 : decode M_MD_pick.2.1 37 = .ok (.aload_n 0, 1) := by decide +kernel
theorem d_MD_pick_38 : decode M_MD_pick.2.1 38 = .ok (.getfield 284, 3) := by decide +kernel
theorem d_MD_pick_41 : decode M_MD_pick.2.1 41 = .ok (.ifCond .ne 7, 3) := by decide +kernel
theorem d_MD_pick_44 : decode M_MD_pick.2.1 44 = .ok (.iconst 2, 1) := by decide +kernel
theorem d_MD_pick_45 : decode M_MD_pick.2.1 45 = .ok (.goto 4, 3) := by decide +kernel
theorem d_MD_pick_48 : decode M_MD_pick.2.1 48 = .ok (.iconst 0, 1) := by decide +kernel
theorem d_MD_pick_49 : decode M_MD_pick.2.1 49 = .ok (.putfield 57, 3) := by decide +kernel
theorem d_MD_pick_52 : decode M_MD_pick.2.1 52 = .ok (.aload_n 0, 1) := by decide +kernel
theorem d_MD_pick_53 : decode M_MD_pick.2.1 53 = .ok (.getfield 57, 3) := by decide +kernel
theorem d_MD_pick_56 : decode M_MD_pick.2.1 56 = .ok (.ifCond .le 5, 3) := by decide +kernel
theorem d_MD_pick_59 : decode M_MD_pick.2.1 59 = .ok (.iconst 0, 1) := by decide +kernel
theorem d_MD_pick_60 : decode M_MD_pick.2.1 60 = .ok (.ireturn, 1) := by decide +kernel
theorem d_MD_pick_61 : decode M_MD_pick.2.1 61 = .ok (.aload_n 0, 1) := by decide +kernel
theorem d_MD_pick_62 : decode M_MD_pick.2.1 62 = .ok (.getfield 34, 3) := by decide +kernel
theorem d_MD_pick_65 : decode M_MD_pick.2.1 65 = .ok (.iload_n 1, 1) := by decide +kernel
theorem d_MD_pick_66 : decode M_MD_pick.2.1 66 = .ok (.iaload, 1) := by decide +kernel
theorem d_MD_pick_67 : decode M_MD_pick.2.1 67 = .ok (.istore 4, 2) := by decide +kernel
theorem d_MD_pick_69 : decode M_MD_pick.2.1 69 = .ok (.aload_n 0, 1) := by decide +kernel
theorem d_MD_pick_70 : decode M_MD_pick.2.1 70 = .ok (.getfield 34, 3) := by decide +kernel
theorem d_MD_pick_73 : decode M_MD_pick.2.1 73 = .ok (.iload_n 1, 1) := by decide +kernel
theorem d_MD_pick_74 : decode M_MD_pick.2.1 74 = .ok (.iload_n 2, 1) := by decide +kernel
theorem d_MD_pick_75 : decode M_MD_pick.2.1 75 = .ok (.iastore, 1) := by decide +kernel
theorem d_MD_pick_76 : decode M_MD_pick.2.1 76 = .ok (.iload 4, 2) := by decide +kernel
theorem d_MD_pick_78 : decode M_MD_pick.2.1 78 = .ok (.ireturn, 1) := by decide +kernel
theorem k_MD_pick : x_kV M_MD_pick "QuestionReaderModel" 2 := ⟨⟨by decide, Or.inl ⟨w_1506, rfl⟩⟩, w_1504, w_1505, ⟨by decide, by decide⟩, by decide +kernel⟩
def B_MD_find_42   : Nat → Int32 → Int32 → Int32 → x_m → Option (Int32 × x_m)
  | 0, _, _, _, _ => none
  | f_ + 1, l1, l2, l4, m => (if x_ix l1 8 = true then (if (m.2.1 390 l1.toNatClampNeg) ≤ l4 then some ((-1), m) else ((F_MD_valueOf l1 0 l4 m).bind fun r58 => (if r58.1 = l2 then some (l4, r58.2) else (B_MD_find_42 f_) l1 l2 (l4 + 1) r58.2))) else none)
theorem b_MD_find_42 {G : x_G} {ex : Bool} {r : Int32 × x_m}   : ∀ (f_ : Nat) (l1 : Int32) (l2 : Int32) (l4 : Int32) (m : x_m), B_MD_find_42 f_ l1 l2 l4 m = some r → x_W G M_MD_find (x_rd 1) (x_Q G (x_rd 1) ex (x_pi r)) ex x_np (x_hp m) 0 0 [(0, .ref 387), (1, .int l1), (2, .int l2), (4, .int l4)] [] 42 := by
  intro f_
  induction f_ with
  | zero => intro l1 l2 l4 m h; exact nomatch h
  | succ f_ ih =>
    intro l1 l2 l4 m h
    rw [B_MD_find_42] at h
    have hK42 := ih
    refine x_iload d_MD_find_42 rfl ?_
    refine x_aload_n d_MD_find_44 rfl rfl ?_
    refine x_gC d_MD_find_45 (f_MD_28 rfl) sh_MD hp_MD rfl ?_
    refine x_iload_n d_MD_find_48 rfl rfl ?_
    obtain ⟨g_49, h⟩ := x_gd h
    refine x_lI d_MD_find_49 rfl sa_MD_members ha_MD_members g_49 ?_
    refine x_icmp_ge (tgt := 74) d_MD_find_50 (by decide) (fun c_ => ?_) (fun c_ => ?_)
    · replace h := x_it h c_
      refine x_iconst (v := (-1)) d_MD_find_74 (by decide) ?_
      cases h
      exact x_ri d_MD_find_75 rfl rfl
    · replace h := x_ie h c_
      refine x_aload_n d_MD_find_53 rfl rfl ?_
      refine x_iload_n d_MD_find_54 rfl rfl ?_
      refine x_iconst (v := 0) d_MD_find_55 (by decide) ?_
      refine x_iload d_MD_find_56 rfl ?_
      obtain ⟨r58, e58, h⟩ := x_bd h
      refine x_cVi (M2 := M_MD_valueOf) (As := [.int l1, .int 0, .int l4]) (st := []) d_MD_find_58 w_1471 k_MD_valueOf (c_MD_valueOf e58) rfl sh_MD hp_MD rfl ⟨Nat.le_of_ble_eq_true rfl, Nat.le_of_ble_eq_true rfl⟩ (Nat.le_of_ble_eq_true rfl) (Nat.le_of_ble_eq_true rfl) rfl ?_
      refine x_iload_n d_MD_find_61 rfl rfl ?_
      refine x_icmp_ne (tgt := 68) d_MD_find_62 (by decide) (fun c_ => ?_) (fun c_ => ?_)
      · replace h := x_ie h c_
        refine x_iinc (v := l4 + 1) (lv2 := [(0, .ref 387), (1, .int l1), (2, .int l2), (4, .int (l4 + 1))]) d_MD_find_68 rfl rfl (by decide) rfl ?_
        refine x_goto (tgt := 42) d_MD_find_71 (by decide) ?_
        exact hK42 _ _ _ _ h
      · replace h := x_it h c_
        refine x_iload d_MD_find_65 rfl ?_
        cases h
        exact x_ri d_MD_find_67 rfl rfl
def B_MD_find_27   (l1 : Int32) (l2 : Int32) (s0 : Int32) (m : x_m) : Option (Int32 × x_m) := (if ((x_wS m 387 1 s0).1 387 1) ≤ 0 then B_MD_find_42 x_fu l1 l2 0 (x_wS m 387 1 s0) else some (0, x_wS m 387 1 s0))
theorem b_MD_find_27 {G : x_G} {ex : Bool} {r : Int32 × x_m}   {l1 : Int32} {l2 : Int32} {s0 : Int32} {m : x_m} (h : B_MD_find_27 l1 l2 s0 m = some r) : x_W G M_MD_find (x_rd 1) (x_Q G (x_rd 1) ex (x_pi r)) ex x_np (x_hp m) 0 0 [(0, .ref 387), (1, .int l1), (2, .int l2)] [.int s0, .ref 387] 27 := by
  unfold B_MD_find_27 at h
  refine x_pI d_MD_find_27 (f_MD_57 rfl) tb_MD rfl sh_MD hp_MD rfl ⟨rfl, rfl⟩ ?_
  refine x_aload_n d_MD_find_30 rfl rfl ?_
  refine x_gI d_MD_find_31 (f_MD_57 rfl) sh_MD hp_MD rfl ?_
  refine x_if_le (tgt := 39) d_MD_find_34 (by decide) (fun c_ => ?_) (fun c_ => ?_)
  · replace h := x_it h c_
    refine x_iconst (v := 0) d_MD_find_39 (by decide) ?_
    refine x_istore (lv2 := [(0, .ref 387), (1, .int l1), (2, .int l2), (4, .int 0)]) d_MD_find_40 (by decide) rfl ?_
    exact b_MD_find_42 _ _ _ _ _ h
  · replace h := x_ie h c_
    refine x_iconst (v := 0) d_MD_find_37 (by decide) ?_
    cases h
    exact x_ri d_MD_find_38 rfl rfl
def F_MD_find  (a1 : Int32) (a2 : Int32) (m : x_m) : Option (Int32 × x_m) := ((F_MD_isDimension a1 m).bind fun r2 => (if r2.1 = 0 then B_MD_find_27 a1 a2 1 r2.2 else (if (r2.2.1 387 2) = 0 then B_MD_find_27 a1 a2 2 r2.2 else B_MD_find_27 a1 a2 0 r2.2)))
theorem c_MD_find {G : x_G} {ex : Bool} {r : Int32 × x_m}  {a1 : Int32} {a2 : Int32} {m : x_m} (h : F_MD_find a1 a2 m = some r) : x_R G M_MD_find (x_rd 1) ex [.ref 387, .int a1, .int a2] x_np (x_hp m) (x_pi r) := by
  unfold F_MD_find at h
  show x_W G M_MD_find (x_rd 1) (x_Q G (x_rd 1) ex (x_pi r)) ex x_np (x_hp m) 0 0 [(0, .ref 387), (1, .int a1), (2, .int a2)] [] 0
  refine x_aload_n d_MD_find_0 rfl rfl ?_
  refine x_iload_n d_MD_find_1 rfl rfl ?_
  obtain ⟨r2, e2, h⟩ := x_bd h
  refine x_cVi (M2 := M_MD_isDimension) (As := [.int a1]) (st := []) d_MD_find_2 w_1459 k_MD_isDimension (c_MD_isDimension e2) rfl sh_MD hp_MD rfl ⟨Nat.le_of_ble_eq_true rfl, Nat.le_of_ble_eq_true rfl⟩ (Nat.le_of_ble_eq_true rfl) (Nat.le_of_ble_eq_true rfl) rfl ?_
  refine x_istore_n (lv2 := [(0, .ref 387), (1, .int a1), (2, .int a2), (3, .int r2.1)]) d_MD_find_5 rfl (by decide) rfl ?_
  refine x_aload_n d_MD_find_6 rfl rfl ?_
  refine x_iload_n d_MD_find_7 rfl rfl ?_
  refine x_if_ne (tgt := 15) d_MD_find_8 (by decide) (fun c_ => ?_) (fun c_ => ?_)
  · replace h := x_ie h c_
    refine x_aload_n d_MD_find_15 rfl rfl ?_
    refine x_gI d_MD_find_16 (f_MD_284 rfl) sh_MD hp_MD rfl ?_
    refine x_if_ne (tgt := 26) d_MD_find_19 (by decide) (fun c_ => ?_) (fun c_ => ?_)
    · replace h := x_ie h c_
      refine x_iconst (v := 0) d_MD_find_26 (by decide) ?_
      refine x_sbk [0, 1, 2] (lv2 := [(0, .ref 387), (1, .int a1), (2, .int a2)]) rfl ?_; exact b_MD_find_27 h
    · replace h := x_it h c_
      refine x_iconst (v := 2) d_MD_find_22 (by decide) ?_
      refine x_goto (tgt := 27) d_MD_find_23 (by decide) ?_
      refine x_sbk [0, 1, 2] (lv2 := [(0, .ref 387), (1, .int a1), (2, .int a2)]) rfl ?_; exact b_MD_find_27 h
  · replace h := x_it h c_
    refine x_iconst (v := 1) d_MD_find_11 (by decide) ?_
    refine x_goto (tgt := 27) d_MD_find_12 (by decide) ?_
    refine x_sbk [0, 1, 2] (lv2 := [(0, .ref 387), (1, .int a1), (2, .int a2)]) rfl ?_; exact b_MD_find_27 h
def B_MD_isNamed_83   (s0 : Int32) (m : x_m) : Option (Int32 × x_m) := (if x_b1 s0 = true then some (s0, m) else none)
theorem b_MD_isNamed_83 {G : x_G} {ex : Bool} {r : Int32 × x_m}   {s0 : Int32} {m : x_m} (h : B_MD_isNamed_83 s0 m = some r) : x_W G M_MD_isNamed (x_rd 0) (x_Q G (x_rd 0) ex (x_pi r)) ex x_np (x_hp m) 0 0 [] [.int s0] 83 := by
  unfold B_MD_isNamed_83 at h
  obtain ⟨g_83, h⟩ := x_gd h
  cases h
  exact x_ri d_MD_isNamed_83 rfl (x_b1_ok g_83).1
def B_MD_isNamed_82    (m : x_m) : Option (Int32 × x_m) := B_MD_isNamed_83 0 m
theorem b_MD_isNamed_82 {G : x_G} {ex : Bool} {r : Int32 × x_m}    {m : x_m} (h : B_MD_isNamed_82 m = some r) : x_W G M_MD_isNamed (x_rd 0) (x_Q G (x_rd 0) ex (x_pi r)) ex x_np (x_hp m) 0 0 [] [] 82 := by
  unfold B_MD_isNamed_82 at h
  refine x_iconst (v := 0) d_MD_isNamed_82 (by decide) ?_
  exact b_MD_isNamed_83 h
def B_MD_isNamed_62    (m : x_m) : Option (Int32 × x_m) := B_MD_isNamed_83 0 m
theorem b_MD_isNamed_62 {G : x_G} {ex : Bool} {r : Int32 × x_m}    {m : x_m} (h : B_MD_isNamed_62 m = some r) : x_W G M_MD_isNamed (x_rd 0) (x_Q G (x_rd 0) ex (x_pi r)) ex x_np (x_hp m) 0 0 [] [] 62 := by
  unfold B_MD_isNamed_62 at h
  refine x_iconst (v := 0) d_MD_isNamed_62 (by decide) ?_
  refine x_goto (tgt := 83) d_MD_isNamed_63 (by decide) ?_
  exact b_MD_isNamed_83 h
def B_MD_isNamed_22   (s0 : Int32) (m : x_m) : Option (Int32 × x_m) := (if x_b1 s0 = true then some (s0, m) else none)
theorem b_MD_isNamed_22 {G : x_G} {ex : Bool} {r : Int32 × x_m}   {s0 : Int32} {m : x_m} (h : B_MD_isNamed_22 s0 m = some r) : x_W G M_MD_isNamed (x_rd 0) (x_Q G (x_rd 0) ex (x_pi r)) ex x_np (x_hp m) 0 0 [] [.int s0] 22 := by
  unfold B_MD_isNamed_22 at h
  obtain ⟨g_22, h⟩ := x_gd h
  cases h
  exact x_ri d_MD_isNamed_22 rfl (x_b1_ok g_22).1
def F_MD_isNamed  (a1 : Int32) (m : x_m) : Option (Int32 × x_m) := (if a1 < 40 then (if a1 < 8 then (if a1 < 0 then B_MD_isNamed_82 m else (if (m.1 387 13) ≤ a1 then B_MD_isNamed_82 m else B_MD_isNamed_83 1 m)) else (if (8 + (4 * (m.1 387 13))) ≤ a1 then B_MD_isNamed_62 m else (if x_ix ((a1 / 4) - 2) 8 = true then (if (m.2.1 389 ((a1 / 4) - 2).toNatClampNeg) ≤ (a1 &&& 3) then B_MD_isNamed_62 m else B_MD_isNamed_83 1 m) else none))) else (if (40 + (m.1 387 18)) ≤ a1 then B_MD_isNamed_22 0 m else B_MD_isNamed_22 1 m))
theorem c_MD_isNamed {G : x_G} {ex : Bool} {r : Int32 × x_m}  {a1 : Int32} {m : x_m} (h : F_MD_isNamed a1 m = some r) : x_R G M_MD_isNamed (x_rd 0) ex [.ref 387, .int a1] x_np (x_hp m) (x_pi r) := by
  unfold F_MD_isNamed at h
  show x_W G M_MD_isNamed (x_rd 0) (x_Q G (x_rd 0) ex (x_pi r)) ex x_np (x_hp m) 0 0 [(0, .ref 387), (1, .int a1)] [] 0
  refine x_iload_n d_MD_isNamed_0 rfl rfl ?_
  refine x_bipush (v := 40) d_MD_isNamed_1 (by decide) ?_
  refine x_icmp_lt (tgt := 23) d_MD_isNamed_3 (by decide) (fun c_ => ?_) (fun c_ => ?_)
  · replace h := x_it h c_
    refine x_iload_n d_MD_isNamed_23 rfl rfl ?_
    refine x_bipush (v := 8) d_MD_isNamed_24 (by decide) ?_
    refine x_icmp_lt (tgt := 66) d_MD_isNamed_26 (by decide) (fun c_ => ?_) (fun c_ => ?_)
    · replace h := x_it h c_
      refine x_iload_n d_MD_isNamed_66 rfl rfl ?_
      refine x_if_lt (tgt := 82) d_MD_isNamed_67 (by decide) (fun c_ => ?_) (fun c_ => ?_)
      · replace h := x_it h c_
        refine x_sbk [] (lv2 := []) rfl ?_; exact b_MD_isNamed_82 h
      · replace h := x_ie h c_
        refine x_iload_n d_MD_isNamed_70 rfl rfl ?_
        refine x_aload_n d_MD_isNamed_71 rfl rfl ?_
        refine x_gI d_MD_isNamed_72 (f_MD_150 rfl) sh_MD hp_MD rfl ?_
        refine x_icmp_ge (tgt := 82) d_MD_isNamed_75 (by decide) (fun c_ => ?_) (fun c_ => ?_)
        · replace h := x_it h c_
          refine x_sbk [] (lv2 := []) rfl ?_; exact b_MD_isNamed_82 h
        · replace h := x_ie h c_
          refine x_iconst (v := 1) d_MD_isNamed_78 (by decide) ?_
          refine x_goto (tgt := 83) d_MD_isNamed_79 (by decide) ?_
          refine x_sbk [] (lv2 := []) rfl ?_; exact b_MD_isNamed_83 h
    · replace h := x_ie h c_
      refine x_iload_n d_MD_isNamed_29 rfl rfl ?_
      refine x_bipush (v := 8) d_MD_isNamed_30 (by decide) ?_
      refine x_iconst (v := 4) d_MD_isNamed_32 (by decide) ?_
      refine x_aload_n d_MD_isNamed_33 rfl rfl ?_
      refine x_gI d_MD_isNamed_34 (f_MD_150 rfl) sh_MD hp_MD rfl ?_
      refine x_imul d_MD_isNamed_37 ?_
      refine x_iadd d_MD_isNamed_38 ?_
      refine x_icmp_ge (tgt := 62) d_MD_isNamed_39 (by decide) (fun c_ => ?_) (fun c_ => ?_)
      · replace h := x_it h c_
        refine x_sbk [] (lv2 := []) rfl ?_; exact b_MD_isNamed_62 h
      · replace h := x_ie h c_
        refine x_iload_n d_MD_isNamed_42 rfl rfl ?_
        refine x_iconst (v := 3) d_MD_isNamed_43 (by decide) ?_
        refine x_iand d_MD_isNamed_44 ?_
        refine x_aload_n d_MD_isNamed_45 rfl rfl ?_
        refine x_gC d_MD_isNamed_46 (f_MD_24 rfl) sh_MD hp_MD rfl ?_
        refine x_iload_n d_MD_isNamed_49 rfl rfl ?_
        refine x_iconst (v := 4) d_MD_isNamed_50 (by decide) ?_
        refine x_idiv d_MD_isNamed_51 (by decide) ?_
        refine x_iconst (v := 2) d_MD_isNamed_52 (by decide) ?_
        refine x_isub d_MD_isNamed_53 ?_
        obtain ⟨g_54, h⟩ := x_gd h
        refine x_lI d_MD_isNamed_54 rfl sa_MD_levels ha_MD_levels g_54 ?_
        refine x_icmp_ge (tgt := 62) d_MD_isNamed_55 (by decide) (fun c_ => ?_) (fun c_ => ?_)
        · replace h := x_it h c_
          refine x_sbk [] (lv2 := []) rfl ?_; exact b_MD_isNamed_62 h
        · replace h := x_ie h c_
          refine x_iconst (v := 1) d_MD_isNamed_58 (by decide) ?_
          refine x_goto (tgt := 83) d_MD_isNamed_59 (by decide) ?_
          refine x_sbk [] (lv2 := []) rfl ?_; exact b_MD_isNamed_83 h
  · replace h := x_ie h c_
    refine x_iload_n d_MD_isNamed_6 rfl rfl ?_
    refine x_bipush (v := 40) d_MD_isNamed_7 (by decide) ?_
    refine x_aload_n d_MD_isNamed_9 rfl rfl ?_
    refine x_gI d_MD_isNamed_10 (f_MD_157 rfl) sh_MD hp_MD rfl ?_
    refine x_iadd d_MD_isNamed_13 ?_
    refine x_icmp_ge (tgt := 21) d_MD_isNamed_14 (by decide) (fun c_ => ?_) (fun c_ => ?_)
    · replace h := x_it h c_
      refine x_iconst (v := 0) d_MD_isNamed_21 (by decide) ?_
      refine x_sbk [] (lv2 := []) rfl ?_; exact b_MD_isNamed_22 h
    · replace h := x_ie h c_
      refine x_iconst (v := 1) d_MD_isNamed_17 (by decide) ?_
      refine x_goto (tgt := 22) d_MD_isNamed_18 (by decide) ?_
      refine x_sbk [] (lv2 := []) rfl ?_; exact b_MD_isNamed_22 h
def B_MD_letter_57   (s0 : Int32) (m : x_m) : Option (Int32 × x_m) := some (s0, m)
theorem b_MD_letter_57 {G : x_G} {ex : Bool} {r : Int32 × x_m}   {s0 : Int32} {m : x_m} (h : B_MD_letter_57 s0 m = some r) : x_W G M_MD_letter (x_rd 1) (x_Q G (x_rd 1) ex (x_pi r)) ex x_np (x_hp m) 0 0 [] [.int s0] 57 := by
  unfold B_MD_letter_57 at h
  cases h
  exact x_ri d_MD_letter_57 rfl rfl
def B_MD_letter_18   (l1 : Int32) (l2 : Int32) (s0 : Int32) (m : x_m) : Option (Int32 × x_m) := (if ((x_wS m 387 1 s0).1 387 1) ≤ 0 then (if x_ix l1 48 = true then (if ((x_wS m 387 1 s0).2.1 394 l1.toNatClampNeg) ≤ l2 then B_MD_letter_57 ((-1)) (x_wS m 387 1 s0) else (if x_ix ((40 * l1) + l2) 1920 = true then B_MD_letter_57 ((x_wS m 387 1 s0).2.1 393 ((40 * l1) + l2).toNatClampNeg) (x_wS m 387 1 s0) else none)) else none) else B_MD_letter_57 0 (x_wS m 387 1 s0))
theorem b_MD_letter_18 {G : x_G} {ex : Bool} {r : Int32 × x_m}   {l1 : Int32} {l2 : Int32} {s0 : Int32} {m : x_m} (h : B_MD_letter_18 l1 l2 s0 m = some r) : x_W G M_MD_letter (x_rd 1) (x_Q G (x_rd 1) ex (x_pi r)) ex x_np (x_hp m) 0 0 [(0, .ref 387), (1, .int l1), (2, .int l2)] [.int s0, .ref 387] 18 := by
  unfold B_MD_letter_18 at h
  refine x_pI d_MD_letter_18 (f_MD_57 rfl) tb_MD rfl sh_MD hp_MD rfl ⟨rfl, rfl⟩ ?_
  refine x_aload_n d_MD_letter_21 rfl rfl ?_
  refine x_gI d_MD_letter_22 (f_MD_57 rfl) sh_MD hp_MD rfl ?_
  refine x_if_le (tgt := 32) d_MD_letter_25 (by decide) (fun c_ => ?_) (fun c_ => ?_)
  · replace h := x_it h c_
    refine x_iload_n d_MD_letter_32 rfl rfl ?_
    refine x_aload_n d_MD_letter_33 rfl rfl ?_
    refine x_gC d_MD_letter_34 (f_MD_40 rfl) sh_MD hp_MD rfl ?_
    refine x_iload_n d_MD_letter_37 rfl rfl ?_
    obtain ⟨g_38, h⟩ := x_gd h
    refine x_lI d_MD_letter_38 rfl sa_MD_lengths ha_MD_lengths g_38 ?_
    refine x_icmp_ge (tgt := 56) d_MD_letter_39 (by decide) (fun c_ => ?_) (fun c_ => ?_)
    · replace h := x_it h c_
      refine x_iconst (v := (-1)) d_MD_letter_56 (by decide) ?_
      refine x_sbk [] (lv2 := []) rfl ?_; exact b_MD_letter_57 h
    · replace h := x_ie h c_
      refine x_aload_n d_MD_letter_42 rfl rfl ?_
      refine x_gC d_MD_letter_43 (f_MD_37 rfl) sh_MD hp_MD rfl ?_
      refine x_bipush (v := 40) d_MD_letter_46 (by decide) ?_
      refine x_iload_n d_MD_letter_48 rfl rfl ?_
      refine x_imul d_MD_letter_49 ?_
      refine x_iload_n d_MD_letter_50 rfl rfl ?_
      refine x_iadd d_MD_letter_51 ?_
      obtain ⟨g_52, h⟩ := x_gd h
      refine x_lB d_MD_letter_52 rfl sa_MD_letters ha_MD_letters g_52 ?_
      refine x_goto (tgt := 57) d_MD_letter_53 (by decide) ?_
      refine x_sbk [] (lv2 := []) rfl ?_; exact b_MD_letter_57 h
  · replace h := x_ie h c_
    refine x_iconst (v := 0) d_MD_letter_28 (by decide) ?_
    refine x_goto (tgt := 57) d_MD_letter_29 (by decide) ?_
    refine x_sbk [] (lv2 := []) rfl ?_; exact b_MD_letter_57 h
def B_MD_letter_17   (l1 : Int32) (l2 : Int32) (m : x_m) : Option (Int32 × x_m) := B_MD_letter_18 l1 l2 1 m
theorem b_MD_letter_17 {G : x_G} {ex : Bool} {r : Int32 × x_m}   {l1 : Int32} {l2 : Int32} {m : x_m} (h : B_MD_letter_17 l1 l2 m = some r) : x_W G M_MD_letter (x_rd 1) (x_Q G (x_rd 1) ex (x_pi r)) ex x_np (x_hp m) 0 0 [(0, .ref 387), (1, .int l1), (2, .int l2)] [.ref 387] 17 := by
  unfold B_MD_letter_17 at h
  refine x_iconst (v := 1) d_MD_letter_17 (by decide) ?_
  exact b_MD_letter_18 h
def F_MD_letter  (a1 : Int32) (a2 : Int32) (m : x_m) : Option (Int32 × x_m) := ((F_MD_isNamed a1 m).bind fun r3 => (if r3.1 = 0 then B_MD_letter_17 a1 a2 r3.2 else (if a2 < 0 then B_MD_letter_17 a1 a2 r3.2 else B_MD_letter_18 a1 a2 0 r3.2)))
theorem c_MD_letter {G : x_G} {ex : Bool} {r : Int32 × x_m}  {a1 : Int32} {a2 : Int32} {m : x_m} (h : F_MD_letter a1 a2 m = some r) : x_R G M_MD_letter (x_rd 1) ex [.ref 387, .int a1, .int a2] x_np (x_hp m) (x_pi r) := by
  unfold F_MD_letter at h
  show x_W G M_MD_letter (x_rd 1) (x_Q G (x_rd 1) ex (x_pi r)) ex x_np (x_hp m) 0 0 [(0, .ref 387), (1, .int a1), (2, .int a2)] [] 0
  refine x_aload_n d_MD_letter_0 rfl rfl ?_
  refine x_aload_n d_MD_letter_1 rfl rfl ?_
  refine x_iload_n d_MD_letter_2 rfl rfl ?_
  obtain ⟨r3, e3, h⟩ := x_bd h
  refine x_cVi (M2 := M_MD_isNamed) (As := [.int a1]) (st := [.ref 387]) d_MD_letter_3 w_1487 k_MD_isNamed (c_MD_isNamed e3) rfl sh_MD hp_MD rfl ⟨Nat.le_of_ble_eq_true rfl, Nat.le_of_ble_eq_true rfl⟩ (Nat.le_of_ble_eq_true rfl) (Nat.le_of_ble_eq_true rfl) rfl ?_
  refine x_if_eq (tgt := 17) d_MD_letter_6 (by decide) (fun c_ => ?_) (fun c_ => ?_)
  · replace h := x_it h c_
    exact b_MD_letter_17 h
  · replace h := x_ie h c_
    refine x_iload_n d_MD_letter_9 rfl rfl ?_
    refine x_if_lt (tgt := 17) d_MD_letter_10 (by decide) (fun c_ => ?_) (fun c_ => ?_)
    · replace h := x_it h c_
      exact b_MD_letter_17 h
    · replace h := x_ie h c_
      refine x_iconst (v := 0) d_MD_letter_13 (by decide) ?_
      refine x_goto (tgt := 18) d_MD_letter_14 (by decide) ?_
      exact b_MD_letter_18 h
def B_MD_group_51   (s0 : Int32) (m : x_m) : Option (Int32 × x_m) := some (s0, m)
theorem b_MD_group_51 {G : x_G} {ex : Bool} {r : Int32 × x_m}   {s0 : Int32} {m : x_m} (h : B_MD_group_51 s0 m = some r) : x_W G M_MD_group (x_rd 0) (x_Q G (x_rd 0) ex (x_pi r)) ex x_np (x_hp m) 0 0 [] [.int s0] 51 := by
  unfold B_MD_group_51 at h
  cases h
  exact x_ri d_MD_group_51 rfl rfl
def B_MD_group_28   (l1 : Int32) (s0 : Int32) (m : x_m) : Option (Int32 × x_m) := (if ((x_wS m 387 1 s0).1 387 1) ≤ 0 then (if x_mq ((x_wS m 387 1 s0).2.2.1 387 21) = true then (if x_ix l1 8 = true then B_MD_group_51 ((x_wS m 387 1 s0).2.1 ((x_wS m 387 1 s0).2.2.1 387 21 + 4) l1.toNatClampNeg) (x_wS m 387 1 s0) else none) else none) else B_MD_group_51 0 (x_wS m 387 1 s0))
theorem b_MD_group_28 {G : x_G} {ex : Bool} {r : Int32 × x_m}   {l1 : Int32} {s0 : Int32} {m : x_m} (h : B_MD_group_28 l1 s0 m = some r) : x_W G M_MD_group (x_rd 0) (x_Q G (x_rd 0) ex (x_pi r)) ex x_np (x_hp m) 0 0 [(0, .ref 387), (1, .int l1)] [.int s0, .ref 387] 28 := by
  unfold B_MD_group_28 at h
  refine x_pI d_MD_group_28 (f_MD_57 rfl) tb_MD rfl sh_MD hp_MD rfl ⟨rfl, rfl⟩ ?_
  refine x_aload_n d_MD_group_31 rfl rfl ?_
  refine x_gI d_MD_group_32 (f_MD_57 rfl) sh_MD hp_MD rfl ?_
  refine x_if_le (tgt := 42) d_MD_group_35 (by decide) (fun c_ => ?_) (fun c_ => ?_)
  · replace h := x_it h c_
    refine x_aload_n d_MD_group_42 rfl rfl ?_
    refine x_gR d_MD_group_43 (f_MD_46 rfl) sh_MD hp_MD rfl ?_
    obtain ⟨g_43, h⟩ := x_gd h
    refine x_gCN d_MD_group_46 (f_MD_243 rfl) (sh_MQ (x_mq_ok g_43)) (hp_MQ (x_mq_ok g_43)) rfl ?_
    refine x_iload_n d_MD_group_49 rfl rfl ?_
    obtain ⟨g_50, h⟩ := x_gd h
    refine x_lI d_MD_group_50 rfl (sa_MQ_group (x_mq_ok g_43)) (ha_MQ_group (x_mq_ok g_43)) g_50 ?_
    refine x_sbk [] (lv2 := []) rfl ?_; exact b_MD_group_51 h
  · replace h := x_ie h c_
    refine x_iconst (v := 0) d_MD_group_38 (by decide) ?_
    refine x_goto (tgt := 51) d_MD_group_39 (by decide) ?_
    refine x_sbk [] (lv2 := []) rfl ?_; exact b_MD_group_51 h
def B_MD_group_27   (l1 : Int32) (m : x_m) : Option (Int32 × x_m) := B_MD_group_28 l1 1 m
theorem b_MD_group_27 {G : x_G} {ex : Bool} {r : Int32 × x_m}   {l1 : Int32} {m : x_m} (h : B_MD_group_27 l1 m = some r) : x_W G M_MD_group (x_rd 0) (x_Q G (x_rd 0) ex (x_pi r)) ex x_np (x_hp m) 0 0 [(0, .ref 387), (1, .int l1)] [.ref 387] 27 := by
  unfold B_MD_group_27 at h
  refine x_iconst (v := 1) d_MD_group_27 (by decide) ?_
  exact b_MD_group_28 h
def F_MD_group  (a1 : Int32) (m : x_m) : Option (Int32 × x_m) := (if (m.1 387 23) = 0 then B_MD_group_27 a1 m else (if a1 < 0 then B_MD_group_27 a1 m else (if x_mq (m.2.2.1 387 21) = true then (if (m.1 (m.2.2.1 387 21) 4) ≤ a1 then B_MD_group_27 a1 m else B_MD_group_28 a1 0 m) else none)))
theorem c_MD_group {G : x_G} {ex : Bool} {r : Int32 × x_m}  {a1 : Int32} {m : x_m} (h : F_MD_group a1 m = some r) : x_R G M_MD_group (x_rd 0) ex [.ref 387, .int a1] x_np (x_hp m) (x_pi r) := by
  unfold F_MD_group at h
  show x_W G M_MD_group (x_rd 0) (x_Q G (x_rd 0) ex (x_pi r)) ex x_np (x_hp m) 0 0 [(0, .ref 387), (1, .int a1)] [] 0
  refine x_aload_n d_MD_group_0 rfl rfl ?_
  refine x_aload_n d_MD_group_1 rfl rfl ?_
  refine x_gI d_MD_group_2 (f_MD_280 rfl) sh_MD hp_MD rfl ?_
  refine x_if_eq (tgt := 27) d_MD_group_5 (by decide) (fun c_ => ?_) (fun c_ => ?_)
  · replace h := x_it h c_
    exact b_MD_group_27 h
  · replace h := x_ie h c_
    refine x_iload_n d_MD_group_8 rfl rfl ?_
    refine x_if_lt (tgt := 27) d_MD_group_9 (by decide) (fun c_ => ?_) (fun c_ => ?_)
    · replace h := x_it h c_
      exact b_MD_group_27 h
    · replace h := x_ie h c_
      refine x_iload_n d_MD_group_12 rfl rfl ?_
      refine x_aload_n d_MD_group_13 rfl rfl ?_
      refine x_gR d_MD_group_14 (f_MD_46 rfl) sh_MD hp_MD rfl ?_
      obtain ⟨g_14, h⟩ := x_gd h
      refine x_gIN d_MD_group_17 (f_MD_240 rfl) (sh_MQ (x_mq_ok g_14)) (hp_MQ (x_mq_ok g_14)) rfl ?_
      refine x_icmp_ge (tgt := 27) d_MD_group_20 (by decide) (fun c_ => ?_) (fun c_ => ?_)
      · replace h := x_it h c_
        exact b_MD_group_27 h
      · replace h := x_ie h c_
        refine x_iconst (v := 0) d_MD_group_23 (by decide) ?_
        refine x_goto (tgt := 28) d_MD_group_24 (by decide) ?_
        exact b_MD_group_28 h
def B_MD_set_51   (s0 : Int32) (m : x_m) : Option (Int32 × x_m) := some (s0, m)
theorem b_MD_set_51 {G : x_G} {ex : Bool} {r : Int32 × x_m}   {s0 : Int32} {m : x_m} (h : B_MD_set_51 s0 m = some r) : x_W G M_MD_set (x_rd 0) (x_Q G (x_rd 0) ex (x_pi r)) ex x_np (x_hp m) 0 0 [] [.int s0] 51 := by
  unfold B_MD_set_51 at h
  cases h
  exact x_ri d_MD_set_51 rfl rfl
def B_MD_set_28   (l1 : Int32) (s0 : Int32) (m : x_m) : Option (Int32 × x_m) := (if ((x_wS m 387 1 s0).1 387 1) ≤ 0 then (if x_mq ((x_wS m 387 1 s0).2.2.1 387 21) = true then (if x_ix l1 32 = true then B_MD_set_51 ((x_wS m 387 1 s0).2.1 ((x_wS m 387 1 s0).2.2.1 387 21 + 7) l1.toNatClampNeg) (x_wS m 387 1 s0) else none) else none) else B_MD_set_51 0 (x_wS m 387 1 s0))
theorem b_MD_set_28 {G : x_G} {ex : Bool} {r : Int32 × x_m}   {l1 : Int32} {s0 : Int32} {m : x_m} (h : B_MD_set_28 l1 s0 m = some r) : x_W G M_MD_set (x_rd 0) (x_Q G (x_rd 0) ex (x_pi r)) ex x_np (x_hp m) 0 0 [(0, .ref 387), (1, .int l1)] [.int s0, .ref 387] 28 := by
  unfold B_MD_set_28 at h
  refine x_pI d_MD_set_28 (f_MD_57 rfl) tb_MD rfl sh_MD hp_MD rfl ⟨rfl, rfl⟩ ?_
  refine x_aload_n d_MD_set_31 rfl rfl ?_
  refine x_gI d_MD_set_32 (f_MD_57 rfl) sh_MD hp_MD rfl ?_
  refine x_if_le (tgt := 42) d_MD_set_35 (by decide) (fun c_ => ?_) (fun c_ => ?_)
  · replace h := x_it h c_
    refine x_aload_n d_MD_set_42 rfl rfl ?_
    refine x_gR d_MD_set_43 (f_MD_46 rfl) sh_MD hp_MD rfl ?_
    obtain ⟨g_43, h⟩ := x_gd h
    refine x_gCN d_MD_set_46 (f_MD_267 rfl) (sh_MQ (x_mq_ok g_43)) (hp_MQ (x_mq_ok g_43)) rfl ?_
    refine x_iload_n d_MD_set_49 rfl rfl ?_
    obtain ⟨g_50, h⟩ := x_gd h
    refine x_lI d_MD_set_50 rfl (sa_MQ_set (x_mq_ok g_43)) (ha_MQ_set (x_mq_ok g_43)) g_50 ?_
    refine x_sbk [] (lv2 := []) rfl ?_; exact b_MD_set_51 h
  · replace h := x_ie h c_
    refine x_iconst (v := 0) d_MD_set_38 (by decide) ?_
    refine x_goto (tgt := 51) d_MD_set_39 (by decide) ?_
    refine x_sbk [] (lv2 := []) rfl ?_; exact b_MD_set_51 h
def B_MD_set_27   (l1 : Int32) (m : x_m) : Option (Int32 × x_m) := B_MD_set_28 l1 1 m
theorem b_MD_set_27 {G : x_G} {ex : Bool} {r : Int32 × x_m}   {l1 : Int32} {m : x_m} (h : B_MD_set_27 l1 m = some r) : x_W G M_MD_set (x_rd 0) (x_Q G (x_rd 0) ex (x_pi r)) ex x_np (x_hp m) 0 0 [(0, .ref 387), (1, .int l1)] [.ref 387] 27 := by
  unfold B_MD_set_27 at h
  refine x_iconst (v := 1) d_MD_set_27 (by decide) ?_
  exact b_MD_set_28 h
def F_MD_set  (a1 : Int32) (m : x_m) : Option (Int32 × x_m) := (if (m.1 387 23) = 0 then B_MD_set_27 a1 m else (if a1 < 0 then B_MD_set_27 a1 m else (if x_mq (m.2.2.1 387 21) = true then (if (m.1 (m.2.2.1 387 21) 9) ≤ a1 then B_MD_set_27 a1 m else B_MD_set_28 a1 0 m) else none)))
theorem c_MD_set {G : x_G} {ex : Bool} {r : Int32 × x_m}  {a1 : Int32} {m : x_m} (h : F_MD_set a1 m = some r) : x_R G M_MD_set (x_rd 0) ex [.ref 387, .int a1] x_np (x_hp m) (x_pi r) := by
  unfold F_MD_set at h
  show x_W G M_MD_set (x_rd 0) (x_Q G (x_rd 0) ex (x_pi r)) ex x_np (x_hp m) 0 0 [(0, .ref 387), (1, .int a1)] [] 0
  refine x_aload_n d_MD_set_0 rfl rfl ?_
  refine x_aload_n d_MD_set_1 rfl rfl ?_
  refine x_gI d_MD_set_2 (f_MD_280 rfl) sh_MD hp_MD rfl ?_
  refine x_if_eq (tgt := 27) d_MD_set_5 (by decide) (fun c_ => ?_) (fun c_ => ?_)
  · replace h := x_it h c_
    exact b_MD_set_27 h
  · replace h := x_ie h c_
    refine x_iload_n d_MD_set_8 rfl rfl ?_
    refine x_if_lt (tgt := 27) d_MD_set_9 (by decide) (fun c_ => ?_) (fun c_ => ?_)
    · replace h := x_it h c_
      exact b_MD_set_27 h
    · replace h := x_ie h c_
      refine x_iload_n d_MD_set_12 rfl rfl ?_
      refine x_aload_n d_MD_set_13 rfl rfl ?_
      refine x_gR d_MD_set_14 (f_MD_46 rfl) sh_MD hp_MD rfl ?_
      obtain ⟨g_14, h⟩ := x_gd h
      refine x_gIN d_MD_set_17 (f_MD_264 rfl) (sh_MQ (x_mq_ok g_14)) (hp_MQ (x_mq_ok g_14)) rfl ?_
      refine x_icmp_ge (tgt := 27) d_MD_set_20 (by decide) (fun c_ => ?_) (fun c_ => ?_)
      · replace h := x_it h c_
        exact b_MD_set_27 h
      · replace h := x_ie h c_
        refine x_iconst (v := 0) d_MD_set_23 (by decide) ?_
        refine x_goto (tgt := 28) d_MD_set_24 (by decide) ?_
        exact b_MD_set_28 h
def B_MD_pick_49   (l1 : Int32) (l2 : Int32) (s0 : Int32) (m : x_m) : Option (Int32 × x_m) := (if ((x_wS m 387 1 s0).1 387 1) ≤ 0 then (if x_ix l1 8 = true then (if x_ix l1 8 = true then some ((x_wS m 387 1 s0).2.1 392 l1.toNatClampNeg, x_wA (x_wS m 387 1 s0) 392 l1.toNatClampNeg l2) else none) else none) else some (0, x_wS m 387 1 s0))
theorem b_MD_pick_49 {G : x_G} {ex : Bool} {r : Int32 × x_m}   {l1 : Int32} {l2 : Int32} {s0 : Int32} {m : x_m} (h : B_MD_pick_49 l1 l2 s0 m = some r) : x_W G M_MD_pick (x_rd 1) (x_Q G (x_rd 1) ex (x_pi r)) ex x_np (x_hp m) 0 0 [(0, .ref 387), (1, .int l1), (2, .int l2)] [.int s0, .ref 387] 49 := by
  unfold B_MD_pick_49 at h
  refine x_pI d_MD_pick_49 (f_MD_57 rfl) tb_MD rfl sh_MD hp_MD rfl ⟨rfl, rfl⟩ ?_
  refine x_aload_n d_MD_pick_52 rfl rfl ?_
  refine x_gI d_MD_pick_53 (f_MD_57 rfl) sh_MD hp_MD rfl ?_
  refine x_if_le (tgt := 61) d_MD_pick_56 (by decide) (fun c_ => ?_) (fun c_ => ?_)
  · replace h := x_it h c_
    refine x_aload_n d_MD_pick_61 rfl rfl ?_
    refine x_gC d_MD_pick_62 (f_MD_34 rfl) sh_MD hp_MD rfl ?_
    refine x_iload_n d_MD_pick_65 rfl rfl ?_
    obtain ⟨g_66, h⟩ := x_gd h
    refine x_lI d_MD_pick_66 rfl sa_MD_picked ha_MD_picked g_66 ?_
    refine x_istore (lv2 := [(0, .ref 387), (1, .int l1), (2, .int l2), (4, .int ((x_wS m 387 1 s0).2.1 392 l1.toNatClampNeg))]) d_MD_pick_67 (by decide) rfl ?_
    refine x_aload_n d_MD_pick_69 rfl rfl ?_
    refine x_gC d_MD_pick_70 (f_MD_34 rfl) sh_MD hp_MD rfl ?_
    refine x_iload_n d_MD_pick_73 rfl rfl ?_
    refine x_iload_n d_MD_pick_74 rfl rfl ?_
    obtain ⟨g_75, h⟩ := x_gd h
    refine x_sI d_MD_pick_75 rfl sa_MD_picked ha_MD_picked g_75 ?_
    refine x_iload d_MD_pick_76 rfl ?_
    cases h
    exact x_ri d_MD_pick_78 rfl rfl
  · replace h := x_ie h c_
    refine x_iconst (v := 0) d_MD_pick_59 (by decide) ?_
    cases h
    exact x_ri d_MD_pick_60 rfl rfl
def B_MD_pick_27   (l1 : Int32) (l2 : Int32) (s0 : Int32) (m : x_m) : Option (Int32 × x_m) := (if s0 = 0 then B_MD_pick_49 l1 l2 1 m else (if (m.1 387 2) = 0 then B_MD_pick_49 l1 l2 2 m else B_MD_pick_49 l1 l2 0 m))
theorem b_MD_pick_27 {G : x_G} {ex : Bool} {r : Int32 × x_m}   {l1 : Int32} {l2 : Int32} {s0 : Int32} {m : x_m} (h : B_MD_pick_27 l1 l2 s0 m = some r) : x_W G M_MD_pick (x_rd 1) (x_Q G (x_rd 1) ex (x_pi r)) ex x_np (x_hp m) 0 0 [(0, .ref 387), (1, .int l1), (2, .int l2)] [.int s0] 27 := by
  unfold B_MD_pick_27 at h
  refine x_istore_n (lv2 := [(0, .ref 387), (1, .int l1), (2, .int l2), (3, .int s0)]) d_MD_pick_27 rfl (by decide) rfl ?_
  refine x_aload_n d_MD_pick_28 rfl rfl ?_
  refine x_iload_n d_MD_pick_29 rfl rfl ?_
  refine x_if_ne (tgt := 37) d_MD_pick_30 (by decide) (fun c_ => ?_) (fun c_ => ?_)
  · replace h := x_ie h c_
    refine x_aload_n d_MD_pick_37 rfl rfl ?_
    refine x_gI d_MD_pick_38 (f_MD_284 rfl) sh_MD hp_MD rfl ?_
    refine x_if_ne (tgt := 48) d_MD_pick_41 (by decide) (fun c_ => ?_) (fun c_ => ?_)
    · replace h := x_ie h c_
      refine x_iconst (v := 0) d_MD_pick_48 (by decide) ?_
      refine x_sbk [0, 1, 2] (lv2 := [(0, .ref 387), (1, .int l1), (2, .int l2)]) rfl ?_; exact b_MD_pick_49 h
    · replace h := x_it h c_
      refine x_iconst (v := 2) d_MD_pick_44 (by decide) ?_
      refine x_goto (tgt := 49) d_MD_pick_45 (by decide) ?_
      refine x_sbk [0, 1, 2] (lv2 := [(0, .ref 387), (1, .int l1), (2, .int l2)]) rfl ?_; exact b_MD_pick_49 h
  · replace h := x_it h c_
    refine x_iconst (v := 1) d_MD_pick_33 (by decide) ?_
    refine x_goto (tgt := 49) d_MD_pick_34 (by decide) ?_
    refine x_sbk [0, 1, 2] (lv2 := [(0, .ref 387), (1, .int l1), (2, .int l2)]) rfl ?_; exact b_MD_pick_49 h
def B_MD_pick_26   (l1 : Int32) (l2 : Int32) (m : x_m) : Option (Int32 × x_m) := B_MD_pick_27 l1 l2 0 m
theorem b_MD_pick_26 {G : x_G} {ex : Bool} {r : Int32 × x_m}   {l1 : Int32} {l2 : Int32} {m : x_m} (h : B_MD_pick_26 l1 l2 m = some r) : x_W G M_MD_pick (x_rd 1) (x_Q G (x_rd 1) ex (x_pi r)) ex x_np (x_hp m) 0 0 [(0, .ref 387), (1, .int l1), (2, .int l2)] [] 26 := by
  unfold B_MD_pick_26 at h
  refine x_iconst (v := 0) d_MD_pick_26 (by decide) ?_
  exact b_MD_pick_27 h
def F_MD_pick  (a1 : Int32) (a2 : Int32) (m : x_m) : Option (Int32 × x_m) := ((F_MD_isDimension a1 m).bind fun r2 => (if r2.1 = 0 then B_MD_pick_26 a1 a2 r2.2 else (if a2 < 0 then B_MD_pick_26 a1 a2 r2.2 else (if x_ix a1 8 = true then (if (r2.2.2.1 390 a1.toNatClampNeg) ≤ a2 then B_MD_pick_26 a1 a2 r2.2 else B_MD_pick_27 a1 a2 1 r2.2) else none))))
theorem c_MD_pick {G : x_G} {ex : Bool} {r : Int32 × x_m}  {a1 : Int32} {a2 : Int32} {m : x_m} (h : F_MD_pick a1 a2 m = some r) : x_R G M_MD_pick (x_rd 1) ex [.ref 387, .int a1, .int a2] x_np (x_hp m) (x_pi r) := by
  unfold F_MD_pick at h
  show x_W G M_MD_pick (x_rd 1) (x_Q G (x_rd 1) ex (x_pi r)) ex x_np (x_hp m) 0 0 [(0, .ref 387), (1, .int a1), (2, .int a2)] [] 0
  refine x_aload_n d_MD_pick_0 rfl rfl ?_
  refine x_iload_n d_MD_pick_1 rfl rfl ?_
  obtain ⟨r2, e2, h⟩ := x_bd h
  refine x_cVi (M2 := M_MD_isDimension) (As := [.int a1]) (st := []) d_MD_pick_2 w_1459 k_MD_isDimension (c_MD_isDimension e2) rfl sh_MD hp_MD rfl ⟨Nat.le_of_ble_eq_true rfl, Nat.le_of_ble_eq_true rfl⟩ (Nat.le_of_ble_eq_true rfl) (Nat.le_of_ble_eq_true rfl) rfl ?_
  refine x_if_eq (tgt := 26) d_MD_pick_5 (by decide) (fun c_ => ?_) (fun c_ => ?_)
  · replace h := x_it h c_
    exact b_MD_pick_26 h
  · replace h := x_ie h c_
    refine x_iload_n d_MD_pick_8 rfl rfl ?_
    refine x_if_lt (tgt := 26) d_MD_pick_9 (by decide) (fun c_ => ?_) (fun c_ => ?_)
    · replace h := x_it h c_
      exact b_MD_pick_26 h
    · replace h := x_ie h c_
      refine x_iload_n d_MD_pick_12 rfl rfl ?_
      refine x_aload_n d_MD_pick_13 rfl rfl ?_
      refine x_gC d_MD_pick_14 (f_MD_28 rfl) sh_MD hp_MD rfl ?_
      refine x_iload_n d_MD_pick_17 rfl rfl ?_
      obtain ⟨g_18, h⟩ := x_gd h
      refine x_lI d_MD_pick_18 rfl sa_MD_members ha_MD_members g_18 ?_
      refine x_icmp_ge (tgt := 26) d_MD_pick_19 (by decide) (fun c_ => ?_) (fun c_ => ?_)
      · replace h := x_it h c_
        exact b_MD_pick_26 h
      · replace h := x_ie h c_
        refine x_iconst (v := 1) d_MD_pick_22 (by decide) ?_
        refine x_goto (tgt := 27) d_MD_pick_23 (by decide) ?_
        exact b_MD_pick_27 h
