def M_MD_letter : x_M := (⟨"QuestionReaderModel", "letter", "(II)I"⟩, prog_14_method_56_code, 3, some (.int), [])
theorem d_MD_letter_0 : decode M_MD_letter.2.1 0 = .ok (.aload_n 0, 1) := by decide +kernel
theorem d_MD_letter_1 : decode M_MD_letter.2.1 1 = .ok (.aload_n 0, 1) := by decide +kernel
theorem d_MD_letter_2 : decode M_MD_letter.2.1 2 = .ok (.iload_n 1, 1) := by decide +kernel
theorem d_MD_letter_3 : decode M_MD_letter.2.1 3 = .ok (.invokevirtual 316, 3) := by decide +kernel
theorem d_MD_letter_6 : decode M_MD_letter.2.1 6 = .ok (.ifCond .eq 11, 3) := by decide +kernel
theorem d_MD_letter_9 : decode M_MD_letter.2.1 9 = .ok (.iload_n 2, 1) := by decide +kernel
theorem d_MD_letter_10 : decode M_MD_letter.2.1 10 = .ok (.ifCond .lt 7, 3) := by decide +kernel
theorem d_MD_letter_13 : decode M_MD_letter.2.1 13 = .ok (.iconst 0, 1) := by decide +kernel
theorem d_MD_letter_14 : decode M_MD_letter.2.1 14 = .ok (.goto 4, 3) := by decide +kernel
theorem d_MD_letter_17 : decode M_MD_letter.2.1 17 = .ok (.iconst 1, 1) := by decide +kernel
theorem d_MD_letter_18 : decode M_MD_letter.2.1 18 = .ok (.putfield 57, 3) := by decide +kernel
theorem d_MD_letter_21 : decode M_MD_letter.2.1 21 = .ok (.aload_n 0, 1) := by decide +kernel
theorem d_MD_letter_22 : decode M_MD_letter.2.1 22 = .ok (.getfield 57, 3) := by decide +kernel
theorem d_MD_letter_25 : decode M_MD_letter.2.1 25 = .ok (.ifCond .le 7, 3) := by decide +kernel
theorem d_MD_letter_28 : decode M_MD_letter.2.1 28 = .ok (.iconst 0, 1) := by decide +kernel
theorem d_MD_letter_29 : decode M_MD_letter.2.1 29 = .ok (.goto 28, 3) := by decide +kernel
theorem d_MD_letter_32 : decode M_MD_letter.2.1 32 = .ok (.iload_n 2, 1) := by decide +kernel
theorem d_MD_letter_33 : decode M_MD_letter.2.1 33 = .ok (.aload_n 0, 1) := by decide +kernel
theorem d_MD_letter_34 : decode M_MD_letter.2.1 34 = .ok (.getfield 40, 3) := by decide +kernel
theorem d_MD_letter_37 : decode M_MD_letter.2.1 37 = .ok (.iload_n 1, 1) := by decide +kernel
theorem d_MD_letter_38 : decode M_MD_letter.2.1 38 = .ok (.iaload, 1) := by decide +kernel
theorem d_MD_letter_39 : decode M_MD_letter.2.1 39 = .ok (.if_icmp .ge 17, 3) := by decide +kernel
theorem d_MD_letter_42 : decode M_MD_letter.2.1 42 = .ok (.aload_n 0, 1) := by decide +kernel
theorem d_MD_letter_43 : decode M_MD_letter.2.1 43 = .ok (.getfield 37, 3) := by decide +kernel
theorem d_MD_letter_46 : decode M_MD_letter.2.1 46 = .ok (.bipush 40, 2) := by decide +kernel
theorem d_MD_letter_48 : decode M_MD_letter.2.1 48 = .ok (.iload_n 1, 1) := by decide +kernel
theorem d_MD_letter_49 : decode M_MD_letter.2.1 49 = .ok (.imul, 1) := by decide +kernel
theorem d_MD_letter_50 : decode M_MD_letter.2.1 50 = .ok (.iload_n 2, 1) := by decide +kernel
theorem d_MD_letter_51 : decode M_MD_letter.2.1 51 = .ok (.iadd, 1) := by decide +kernel
theorem d_MD_letter_52 : decode M_MD_letter.2.1 52 = .ok (.baload, 1) := by decide +kernel
theorem d_MD_letter_53 : decode M_MD_letter.2.1 53 = .ok (.goto 4, 3) := by decide +kernel
theorem d_MD_letter_56 : decode M_MD_letter.2.1 56 = .ok (.iconst (-1), 1) := by decide +kernel
theorem d_MD_letter_57 : decode M_MD_letter.2.1 57 = .ok (.ireturn, 1) := by decide +kernel
theorem k_MD_letter : x_kV M_MD_letter "QuestionReaderModel" 2 := ⟨⟨by decide, Or.inl ⟨w_1486, rfl⟩⟩, w_1484, w_1485, ⟨by decide, by decide⟩, by decide +kernel⟩
def M_MD_group : x_M := (⟨"QuestionReaderModel", "group", "(I)I"⟩, prog_14_method_58_code, 2, some (.int), [])
theorem d_MD_group_0 : decode M_MD_group.2.1 0 = .ok (.aload_n 0, 1) := by decide +kernel
theorem d_MD_group_1 : decode M_MD_group.2.1 1 = .ok (.aload_n 0, 1) := by decide +kernel
theorem d_MD_group_2 : decode M_MD_group.2.1 2 = .ok (.getfield 280, 3) := by decide +kernel
theorem d_MD_group_5 : decode M_MD_group.2.1 5 = .ok (.ifCond .eq 22, 3) := by decide +kernel
theorem d_MD_group_8 : decode M_MD_group.2.1 8 = .ok (.iload_n 1, 1) := by decide +kernel
theorem d_MD_group_9 : decode M_MD_group.2.1 9 = .ok (.ifCond .lt 18, 3) := by decide +kernel
theorem d_MD_group_12 : decode M_MD_group.2.1 12 = .ok (.iload_n 1, 1) := by decide +kernel
theorem d_MD_group_13 : decode M_MD_group.2.1 13 = .ok (.aload_n 0, 1) := by decide +kernel
theorem d_MD_group_14 : decode M_MD_group.2.1 14 = .ok (.getfield 46, 3) := by decide +kernel
theorem d_MD_group_17 : decode M_MD_group.2.1 17 = .ok (.getfield 240, 3) := by decide +kernel
theorem d_MD_group_20 : decode M_MD_group.2.1 20 = .ok (.if_icmp .ge 7, 3) := by decide +kernel
theorem d_MD_group_23 : decode M_MD_group.2.1 23 = .ok (.iconst 0, 1) := by decide +kernel
theorem d_MD_group_24 : decode M_MD_group.2.1 24 = .ok (.goto 4, 3) := by decide +kernel
theorem d_MD_group_27 : decode M_MD_group.2.1 27 = .ok (.iconst 1, 1) := by decide +kernel
theorem d_MD_group_28 : decode M_MD_group.2.1 28 = .ok (.putfield 57, 3) := by decide +kernel
theorem d_MD_group_31 : decode M_MD_group.2.1 31 = .ok (.aload_n 0, 1) := by decide +kernel
theorem d_MD_group_32 : decode M_MD_group.2.1 32 = .ok (.getfield 57, 3) := by decide +kernel
theorem d_MD_group_35 : decode M_MD_group.2.1 35 = .ok (.ifCond .le 7, 3) := by decide +kernel
theorem d_MD_group_38 : decode M_MD_group.2.1 38 = .ok (.iconst 0, 1) := by decide +kernel
theorem d_MD_group_39 : decode M_MD_group.2.1 39 = .ok (.goto 12, 3) := by decide +kernel
theorem d_MD_group_42 : decode M_MD_group.2.1 42 = .ok (.aload_n 0, 1) := by decide +kernel
theorem d_MD_group_43 : decode M_MD_group.2.1 43 = .ok (.getfield 46, 3) := by decide +kernel
theorem d_MD_group_46 : decode M_MD_group.2.1 46 = .ok (.getfield 243, 3) := by decide +kernel
theorem d_MD_group_49 : decode M_MD_group.2.1 49 = .ok (.iload_n 1, 1) := by decide +kernel
theorem d_MD_group_50 : decode M_MD_group.2.1 50 = .ok (.iaload, 1) := by decide +kernel
theorem d_MD_group_51 : decode M_MD_group.2.1 51 = .ok (.ireturn, 1) := by decide +kernel
theorem k_MD_group : x_kV M_MD_group "QuestionReaderModel" 1 := ⟨⟨by decide, Or.inl ⟨w_1498, rfl⟩⟩, w_1496, w_1497, ⟨by decide, by decide⟩, by decide +kernel⟩
def M_MD_set : x_M := (⟨"QuestionReaderModel", "set", "(I)I"⟩, prog_14_method_59_code, 2, some (.int), [])
theorem d_MD_set_0 : decode M_MD_set.2.1 0 = .ok (.aload_n 0, 1) := by decide +kernel
theorem d_MD_set_1 : decode M_MD_set.2.1 1 = .ok (.aload_n 0, 1) := by decide +kernel
theorem d_MD_set_2 : decode M_MD_set.2.1 2 = .ok (.getfield 280, 3) := by decide +kernel
theorem d_MD_set_5 : decode M_MD_set.2.1 5 = .ok (.ifCond .eq 22, 3) := by decide +kernel
theorem d_MD_set_8 : decode M_MD_set.2.1 8 = .ok (.iload_n 1, 1) := by decide +kernel
theorem d_MD_set_9 : decode M_MD_set.2.1 9 = .ok (.ifCond .lt 18, 3) := by decide +kernel
theorem d_MD_set_12 : decode M_MD_set.2.1 12 = .ok (.iload_n 1, 1) := by decide +kernel
theorem d_MD_set_13 : decode M_MD_set.2.1 13 = .ok (.aload_n 0, 1) := by decide +kernel
theorem d_MD_set_14 : decode M_MD_set.2.1 14 = .ok (.getfield 46, 3) := by decide +kernel
theorem d_MD_set_17 : decode M_MD_set.2.1 17 = .ok (.getfield 264, 3) := by decide +kernel
theorem d_MD_set_20 : decode M_MD_set.2.1 20 = .ok (.if_icmp .ge 7, 3) := by decide +kernel
theorem d_MD_set_23 : decode M_MD_set.2.1 23 = .ok (.iconst 0, 1) := by decide +kernel
theorem d_MD_set_24 : decode M_MD_set.2.1 24 = .ok (.goto 4, 3) := by decide +kernel
theorem d_MD_set_27 : decode M_MD_set.2.1 27 = .ok (.iconst 1, 1) := by decide +kernel
theorem d_MD_set_28 : decode M_MD_set.2.1 28 = .ok (.putfield 57, 3) := by decide +kernel
theorem d_MD_set_31 : decode M_MD_set.2.1 31 = .ok (.aload_n 0, 1) := by decide +kernel
theorem d_MD_set_32 : decode M_MD_set.2.1 32 = .ok (.getfield 57, 3) := by decide +kernel
theorem d_MD_set_35 : decode M_MD_set.2.1 35 = .ok (.ifCond .le 7, 3) := by decide +kernel
theorem d_MD_set_38 : decode M_MD_set.2.1 38 = .ok (.iconst 0, 1) := by decide +kernel
theorem d_MD_set_39 : decode M_MD_set.2.1 39 = .ok (.goto 12, 3) := by decide +kernel
theorem d_MD_set_42 : decode M_MD_set.2.1 42 = .ok (.aload_n 0, 1) := by decide +kernel
theorem d_MD_set_43 : decode M_MD_set.2.1 43 = .ok (.getfield 46, 3) := by decide +kernel
theorem d_MD_set_46 : decode M_MD_set.2.1 46 = .ok (.getfield 267, 3) := by decide +kernel
theorem d_MD_set_49 : decode M_MD_set.2.1 49 = .ok (.iload_n 1, 1) := by decide +kernel
theorem d_MD_set_50 : decode M_MD_set.2.1 50 = .ok (.iaload, 1) := by decide +kernel
theorem d_MD_set_51 : decode M_MD_set.2.1 51 = .ok (.ireturn, 1) := by decide +kernel
theorem k_MD_set : x_kV M_MD_set "QuestionReaderModel" 1 := ⟨⟨by decide, Or.inl ⟨w_1502, rfl⟩⟩, w_1500, w_1501, ⟨by decide, by decide⟩, by decide +kernel⟩
def M_MD_pick : x_M := (⟨"QuestionReaderModel", "pick", "(II)I"⟩, prog_14_method_60_code, 5, some (.int), [])
theorem d_MD_pick_0 : decode M_MD_pick.2.1 0 = .ok (.aload_n 0, 1) := by decide +kernel
theorem d_MD_pick_1 : decode M_MD_pick.2.1 1 = .ok (.iload_n 1, 1) := by decide +kernel
theorem d_MD_pick_2 : decode M_MD_pick.2.1 2 = .ok (.invokevirtual 305, 3) := by decide +kernel
theorem d_MD_pick_5 : decode M_MD_pick.2.1 5 = .ok (.ifCond .eq 21, 3) := by decide +kernel
theorem d_MD_pick_8 : decode M_MD_pick.2.1 8 = .ok (.iload_n 2, 1) := by decide +kernel
theorem d_MD_pick_9 : decode M_MD_pick.2.1 9 = .ok (.ifCond .lt 17, 3) := by decide +kernel
theorem d_MD_pick_12 : decode M_MD_pick.2.1 12 = .ok (.iload_n 2, 1) := by decide +kernel
theorem d_MD_pick_13 : decode M_MD_pick.2.1 13 = .ok (.aload_n 0, 1) := by decide +kernel
theorem d_MD_pick_14 : decode M_MD_pick.2.1 14 = .ok (.getfield 28, 3) := by decide +kernel
theorem d_MD_pick_17 : decode M_MD_pick.2.1 17 = .ok (.iload_n 1, 1) := by decide +kernel
theorem d_MD_pick_18 : decode M_MD_pick.2.1 18 = .ok (.iaload, 1) := by decide +kernel
theorem d_MD_pick_19 : decode M_MD_pick.2.1 19 = .ok (.if_icmp .ge 7, 3) := by decide +kernel
theorem d_MD_pick_22 : decode M_MD_pick.2.1 22 = .ok (.iconst 1, 1) := by decide +kernel
theorem d_MD_pick_23 : decode M_MD_pick.2.1 23 = .ok (.goto 4, 3) := by decide +kernel
theorem d_MD_pick_26 : decode M_MD_pick.2.1 26 = .ok (.iconst 0, 1) := by decide +kernel
theorem d_MD_pick_27 : decode M_MD_pick.2.1 27 = .ok (.istore_n 3, 1) := by decide +kernel
theorem d_MD_pick_28 : decode M_MD_pick.2.1 28 = .ok (.aload_n 0, 1) := by decide +kernel
theorem d_MD_pick_29 : decode M_MD_pick.2.1 29 = .ok (.iload_n 3, 1) := by decide +kernel
theorem d_MD_pick_30 : decode M_MD_pick.2.1 30 = .ok (.ifCond .ne 7, 3) := by decide +kernel
theorem d_MD_pick_33 : decode M_MD_pick.2.1 33 = .ok (.iconst 1, 1) := by decide +kernel
theorem d_MD_pick_34 : decode M_MD_pick.2.1 34 = .ok (.goto 15, 3) := by decide +kernel
theorem d_MD_pick_37 : decode M_MD_pick.2.1 37 = .ok (.aload_n 0, 1) := by decide +kernel
theorem d_MD_pick_38 : decode M_MD_pick.2.1 38 = .ok (.getfield 284, 3) := by decide +kernel
theorem d_MD_pick_41 : decode M_MD_pick.2.1 41 = .ok (.ifCond .ne 7, 3) := by decide +kernel
theorem d_MD_pick_44 : decode M_MD_pick.2.1 44 = .ok (.iconst 2, 1) := by decide +kernel
theorem d_MD_pick_45 : decode M_MD_pick.2.1 45 = .ok (.goto 4, 3) := by decide +kernel
theorem d_MD_pick_48 : decode M_MD_pick.2.1 48 = .ok (.iconst 0, 1) := by decide +kernel
theorem d_MD_pick_49 : decode M_MD_pick.2.1 49 = .ok (.putfield 57, 3) := by decide +kernel
theorem d_MD_pick_52 : decode M_MD_pick.2.1 52 = .ok (.aload_n 0, 1) := by decide +kernel
theorem d_MD_pick_53 : decode M_MD_pick.2.1 53 = .ok (.getfield 57, 3) := by decide +kernel
theorem d_MD_pick_56 : decode M_MD_pick.2.1 56 = .ok (.ifCond .le 5, 3) := by decide +kernel
theorem d_MD_pick_59 : decode M_MD_pick.2.1 59 = .ok (.iconst 0, 1) := by decide +kernel
theorem d_MD_pick_60 : decode M_MD_pick.2.1 60 = .ok (.ireturn, 1) := by decide +kernel
theorem d_MD_pick_61 : decode M_MD_pick.2.1 61 = .ok (.aload_n 0, 1) := by decide +kernel
theorem d_MD_pick_62 : decode M_MD_pick.2.1 62 = .ok (.getfield 34, 3) := by decide +kernel
theorem d_MD_pick_65 : decode M_MD_pick.2.1 65 = .ok (.iload_n 1, 1) := by decide +kernel
theorem d_MD_pick_66 : decode M_MD_pick.2.1 66 = .ok (.iaload, 1) := by decide +kernel
theorem d_MD_pick_67 : decode M_MD_pick.2.1 67 = .ok (.istore 4, 2) := by decide +kernel
theorem d_MD_pick_69 : decode M_MD_pick.2.1 69 = .ok (.aload_n 0, 1) := by decide +kernel
theorem d_MD_pick_70 : decode M_MD_pick.2.1 70 = .ok (.getfield 34, 3) := by decide +kernel
theorem d_MD_pick_73 : decode M_MD_pick.2.1 73 = .ok (.iload_n 1, 1) := by decide +kernel
theorem d_MD_pick_74 : decode M_MD_pick.2.1 74 = .ok (.iload_n 2, 1) := by decide +kernel
theorem d_MD_pick_75 : decode M_MD_pick.2.1 75 = .ok (.iastore, 1) := by decide +kernel
theorem d_MD_pick_76 : decode M_MD_pick.2.1 76 = .ok (.iload 4, 2) := by decide +kernel
theorem d_MD_pick_78 : decode M_MD_pick.2.1 78 = .ok (.ireturn, 1) := by decide +kernel
theorem k_MD_pick : x_kV M_MD_pick "QuestionReaderModel" 2 := ⟨⟨by decide, Or.inl ⟨w_1506, rfl⟩⟩, w_1504, w_1505, ⟨by decide, by decide⟩, by decide +kernel⟩
def M_MD_compares : x_M := (⟨"QuestionReaderModel", "compares", "(I)Z"⟩, prog_14_method_61_code, 7, some (.boolean), [])
theorem d_MD_compares_0 : decode M_MD_compares.2.1 0 = .ok (.aload_n 0, 1) := by decide +kernel
theorem d_MD_compares_1 : decode M_MD_compares.2.1 1 = .ok (.getfield 46, 3) := by decide +kernel
theorem d_MD_compares_4 : decode M_MD_compares.2.1 4 = .ok (.getfield 220, 3) := by decide +kernel
theorem d_MD_compares_7 : decode M_MD_compares.2.1 7 = .ok (.iload_n 1, 1) := by decide +kernel
theorem d_MD_compares_8 : decode M_MD_compares.2.1 8 = .ok (.iaload, 1) := by decide +kernel
theorem d_MD_compares_9 : decode M_MD_compares.2.1 9 = .ok (.istore_n 2, 1) := by decide +kernel
theorem d_MD_compares_10 : decode M_MD_compares.2.1 10 = .ok (.aload_n 0, 1) := by decide +kernel
theorem d_MD_compares_11 : decode M_MD_compares.2.1 11 = .ok (.iload_n 2, 1) := by decide +kernel
theorem d_MD_compares_12 : decode M_MD_compares.2.1 12 = .ok (.iconst 4, 1) := by decide +kernel
theorem d_MD_compares_13 : decode M_MD_compares.2.1 13 = .ok (.idiv, 1) := by decide +kernel
theorem d_MD_compares_14 : decode M_MD_compares.2.1 14 = .ok (.iload_n 2, 1) := by decide +kernel
theorem d_MD_compares_15 : decode M_MD_compares.2.1 15 = .ok (.iconst 4, 1) := by decide +kernel
theorem d_MD_compares_16 : decode M_MD_compares.2.1 16 = .ok (.irem, 1) := by decide +kernel
theorem d_MD_compares_17 : decode M_MD_compares.2.1 17 = .ok (.aload_n 0, 1) := by decide +kernel
theorem d_MD_compares_18 : decode M_MD_compares.2.1 18 = .ok (.getfield 34, 3) := by decide +kernel
theorem d_MD_compares_21 : decode M_MD_compares.2.1 21 = .ok (.iload_n 2, 1) := by decide +kernel
theorem d_MD_compares_22 : decode M_MD_compares.2.1 22 = .ok (.iconst 4, 1) := by decide +kernel
theorem d_MD_compares_23 : decode M_MD_compares.2.1 23 = .ok (.idiv, 1) := by decide +kernel
theorem d_MD_compares_24 : decode M_MD_compares.2.1 24 = .ok (.iaload, 1) := by decide +kernel
theorem d_MD_compares_25 : decode M_MD_compares.2.1 25 = .ok (.invokevirtual 312, 3) := by decide +kernel
theorem d_MD_compares_28 : decode M_MD_compares.2.1 28 = .ok (.istore_n 3, 1) := by decide +kernel
theorem d_MD_compares_29 : decode M_MD_compares.2.1 29 = .ok (.aload_n 0, 1) := by decide +kernel
theorem d_MD_compares_30 : decode M_MD_compares.2.1 30 = .ok (.getfield 46, 3) := by decide +kernel
theorem d_MD_compares_33 : decode M_MD_compares.2.1 33 = .ok (.getfield 226, 3) := by decide +kernel
theorem d_MD_compares_36 : decode M_MD_compares.2.1 36 = .ok (.iload_n 1, 1) := by decide +kernel
theorem d_MD_compares_37 : decode M_MD_compares.2.1 37 = .ok (.iaload, 1) := by decide +kernel
theorem d_MD_compares_38 : decode M_MD_compares.2.1 38 = .ok (.istore 4, 2) := by decide +kernel
theorem d_MD_compares_40 : decode M_MD_compares.2.1 40 = .ok (.aload_n 0, 1) := by decide +kernel
theorem d_MD_compares_41 : decode M_MD_compares.2.1 41 = .ok (.getfield 46, 3) := by decide +kernel
theorem d_MD_compares_44 : decode M_MD_compares.2.1 44 = .ok (.getfield 223, 3) := by decide +kernel
theorem d_MD_compares_47 : decode M_MD_compares.2.1 47 = .ok (.iload_n 1, 1) := by decide +kernel
theorem d_MD_compares_48 : decode M_MD_compares.2.1 48 = .ok (.iaload, 1) := by decide +kernel
theorem d_MD_compares_49 : decode M_MD_compares.2.1 49 = .ok (.tableswitch 140 0 6 #[43, 55, 67, 79, 91, 103, 115], 43) := by decide +kernel
theorem d_MD_compares_92 : decode M_MD_compares.2.1 92 = .ok (.iload_n 3, 1) := by decide +kernel
theorem d_MD_compares_93 : decode M_MD_compares.2.1 93 = .ok (.iload 4, 2) := by decide +kernel
theorem d_MD_compares_95 : decode M_MD_compares.2.1 95 = .ok (.if_icmp .ne 7, 3) := by decide +kernel
theorem d_MD_compares_98 : decode M_MD_compares.2.1 98 = .ok (.iconst 1, 1) := by decide +kernel
theorem d_MD_compares_99 : decode M_MD_compares.2.1 99 = .ok (.goto 4, 3) := by decide +kernel
theorem d_MD_compares_102 : decode M_MD_compares.2.1 102 = .ok (.iconst 0, 1) := by decide +kernel
theorem d_MD_compares_103 : decode M_MD_compares.2.1 103 = .ok (.ireturn, 1) := by decide +kernel
theorem d_MD_compares_104 : decode M_MD_compares.2.1 104 = .ok (.iload_n 3, 1) := by decide +kernel
theorem d_MD_compares_105 : decode M_MD_compares.2.1 105 = .ok (.iload 4, 2) := by decide +kernel
theorem d_MD_compares_107 : decode M_MD_compares.2.1 107 = .ok (.if_icmp .eq 7, 3) := by decide +kernel
theorem d_MD_compares_110 : decode M_MD_compares.2.1 110 = .ok (.iconst 1, 1) := by decide +kernel
theorem d_MD_compares_111 : decode M_MD_compares.2.1 111 = .ok (.goto 4, 3) := by decide +kernel
theorem d_MD_compares_114 : decode M_MD_compares.2.1 114 = .ok (.iconst 0, 1) := by decide +kernel
theorem d_MD_compares_115 : decode M_MD_compares.2.1 115 = .ok (.ireturn, 1) := by decide +kernel
theorem d_MD_compares_116 : decode M_MD_compares.2.1 116 = .ok (.iload_n 3, 1) := by decide +kernel
theorem d_MD_compares_117 : decode M_MD_compares.2.1 117 = .ok (.iload 4, 2) := by decide +kernel
theorem d_MD_compares_119 : decode M_MD_compares.2.1 119 = .ok (.if_icmp .ge 7, 3) := by decide +kernel
theorem d_MD_compares_122 : decode M_MD_compares.2.1 122 = .ok (.iconst 1, 1) := by decide +kernel
theorem d_MD_compares_123 : decode M_MD_compares.2.1 123 = .ok (.goto 4, 3) := by decide +kernel
theorem d_MD_compares_126 : decode M_MD_compares.2.1 126 = .ok (.iconst 0, 1) := by decide +kernel
theorem d_MD_compares_127 : decode M_MD_compares.2.1 127 = .ok (.ireturn, 1) := by decide +kernel
theorem d_MD_compares_128 : decode M_MD_compares.2.1 128 = .ok (.iload_n 3, 1) := by decide +kernel
theorem d_MD_compares_129 : decode M_MD_compares.2.1 129 = .ok (.iload 4, 2) := by decide +kernel
theorem d_MD_compares_131 : decode M_MD_compares.2.1 131 = .ok (.if_icmp .gt 7, 3) := by decide +kernel
theorem d_MD_compares_134 : decode M_MD_compares.2.1 134 = .ok (.iconst 1, 1) := by decide +kernel
theorem d_MD_compares_135 : decode M_MD_compares.2.1 135 = .ok (.goto 4, 3) := by decide +kernel
theorem d_MD_compares_138 : decode M_MD_compares.2.1 138 = .ok (.iconst 0, 1) := by decide +kernel
theorem d_MD_compares_139 : decode M_MD_compares.2.1 139 = .ok (.ireturn, 1) := by decide +kernel
theorem d_MD_compares_140 : decode M_MD_compares.2.1 140 = .ok (.iload_n 3, 1) := by decide +kernel
theorem d_MD_compares_141 : decode M_MD_compares.2.1 141 = .ok (.iload 4, 2) := by decide +kernel
theorem d_MD_compares_143 : decode M_MD_compares.2.1 143 = .ok (.if_icmp .le 7, 3) := by decide +kernel
theorem d_MD_compares_146 : decode M_MD_compares.2.1 146 = .ok (.iconst 1, 1) := by decide +kernel
theorem d_MD_compares_147 : decode M_MD_compares.2.1 147 = .ok (.goto 4, 3) := by decide +kernel
theorem d_MD_compares_150 : decode M_MD_compares.2.1 150 = .ok (.iconst 0, 1) := by decide +kernel
theorem d_MD_compares_151 : decode M_MD_compares.2.1 151 = .ok (.ireturn, 1) := by decide +kernel
theorem d_MD_compares_152 : decode M_MD_compares.2.1 152 = .ok (.iload_n 3, 1) := by decide +kernel
theorem d_MD_compares_153 : decode M_MD_compares.2.1 153 = .ok (.iload 4, 2) := by decide +kernel
theorem d_MD_compares_155 : decode M_MD_compares.2.1 155 = .ok (.if_icmp .lt 7, 3) := by decide +kernel
theorem d_MD_compares_158 : decode M_MD_compares.2.1 158 = .ok (.iconst 1, 1) := by decide +kernel
theorem d_MD_compares_159 : decode M_MD_compares.2.1 159 = .ok (.goto 4, 3) := by decide +kernel
theorem d_MD_compares_162 : decode M_MD_compares.2.1 162 = .ok (.iconst 0, 1) := by decide +kernel
theorem d_MD_compares_163 : decode M_MD_compares.2.1 163 = .ok (.ireturn, 1) := by decide +kernel
theorem d_MD_compares_164 : decode M_MD_compares.2.1 164 = .ok (.iload_n 3, 1) := by decide +kernel
theorem d_MD_compares_165 : decode M_MD_compares.2.1 165 = .ok (.iload 4, 2) := by decide +kernel
theorem d_MD_compares_167 : decode M_MD_compares.2.1 167 = .ok (.if_icmp .lt 20, 3) := by decide +kernel
theorem d_MD_compares_170 : decode M_MD_compares.2.1 170 = .ok (.iload_n 3, 1) := by decide +kernel
theorem d_MD_compares_171 : decode M_MD_compares.2.1 171 = .ok (.aload_n 0, 1) := by decide +kernel
theorem d_MD_compares_172 : decode M_MD_compares.2.1 172 = .ok (.getfield 46, 3) := by decide +kernel
theorem d_MD_compares_175 : decode M_MD_compares.2.1 175 = .ok (.getfield 235, 3) := by decide +kernel
theorem d_MD_compares_178 : decode M_MD_compares.2.1 178 = .ok (.iload_n 1, 1) := by decide +kernel
theorem d_MD_compares_179 : decode M_MD_compares.2.1 179 = .ok (.iaload, 1) := by decide +kernel
theorem d_MD_compares_180 : decode M_MD_compares.2.1 180 = .ok (.if_icmp .gt 7, 3) := by decide +kernel
theorem d_MD_compares_183 : decode M_MD_compares.2.1 183 = .ok (.iconst 1, 1) := by decide +kernel
theorem d_MD_compares_184 : decode M_MD_compares.2.1 184 = .ok (.goto 4, 3) := by decide +kernel
theorem d_MD_compares_187 : decode M_MD_compares.2.1 187 = .ok (.iconst 0, 1) := by decide +kernel
theorem d_MD_compares_188 : decode M_MD_compares.2.1 188 = .ok (.ireturn, 1) := by decide +kernel
theorem d_MD_compares_189 : decode M_MD_compares.2.1 189 = .ok (.iconst 0, 1) := by decide +kernel
theorem d_MD_compares_190 : decode M_MD_compares.2.1 190 = .ok (.istore 5, 2) := by decide +kernel
theorem d_MD_compares_192 : decode M_MD_compares.2.1 192 = .ok (.iconst 0, 1) := by decide +kernel
theorem d_MD_compares_193 : decode M_MD_compares.2.1 193 = .ok (.istore 6, 2) := by decide +kernel
theorem d_MD_compares_195 : decode M_MD_compares.2.1 195 = .ok (.iload 6, 2) := by decide +kernel
theorem d_MD_compares_197 : decode M_MD_compares.2.1 197 = .ok (.iload 4, 2) := by decide +kernel
theorem d_MD_compares_199 : decode M_MD_compares.2.1 199 = .ok (.if_icmp .ge 40, 3) := by decide +kernel
theorem d_MD_compares_202 : decode M_MD_compares.2.1 202 = .ok (.iload 5, 2) := by decide +kernel
theorem d_MD_compares_204 : decode M_MD_compares.2.1 204 = .ok (.ifCond .ne 22, 3) := by decide +kernel
theorem d_MD_compares_207 : decode M_MD_compares.2.1 207 = .ok (.aload_n 0, 1) := by decide +kernel
theorem d_MD_compares_208 : decode M_MD_compares.2.1 208 = .ok (.getfield 46, 3) := by decide +kernel
theorem d_MD_compares_211 : decode M_MD_compares.2.1 211 = .ok (.getfield 238, 3) := by decide +kernel
theorem d_MD_compares_214 : decode M_MD_compares.2.1 214 = .ok (.bipush 40, 2) := by decide +kernel
theorem d_MD_compares_216 : decode M_MD_compares.2.1 216 = .ok (.iload_n 1, 1) := by decide +kernel
theorem d_MD_compares_217 : decode M_MD_compares.2.1 217 = .ok (.imul, 1) := by decide +kernel
theorem d_MD_compares_218 : decode M_MD_compares.2.1 218 = .ok (.iload 6, 2) := by decide +kernel
theorem d_MD_compares_220 : decode M_MD_compares.2.1 220 = .ok (.iadd, 1) := by decide +kernel
theorem d_MD_compares_221 : decode M_MD_compares.2.1 221 = .ok (.iaload, 1) := by decide +kernel
theorem d_MD_compares_222 : decode M_MD_compares.2.1 222 = .ok (.iload_n 3, 1) := by decide +kernel
theorem d_MD_compares_223 : decode M_MD_compares.2.1 223 = .ok (.if_icmp .ne 7, 3) := by decide +kernel
theorem d_MD_compares_226 : decode M_MD_compares.2.1 226 = .ok (.iconst 1, 1) := by decide +kernel
theorem d_MD_compares_227 : decode M_MD_compares.2.1 227 = .ok (.goto 4, 3) := by decide +kernel
theorem d_MD_compares_230 : decode M_MD_compares.2.1 230 = .ok (.iconst 0, 1) := by decide +kernel
theorem d_MD_compares_231 : decode M_MD_compares.2.1 231 = .ok (.istore 5, 2) := by decide +kernel
theorem d_MD_compares_233 : decode M_MD_compares.2.1 233 = .ok (.iinc 6 1, 3) := by decide +kernel
theorem d_MD_compares_236 : decode M_MD_compares.2.1 236 = .ok (.goto (-41), 3) := by decide +kernel
theorem d_MD_compares_239 : decode M_MD_compares.2.1 239 = .ok (.iload 5, 2) := by decide +kernel
theorem d_MD_compares_241 : decode M_MD_compares.2.1 241 = .ok (.aload_n 0, 1) := by decide +kernel
theorem d_MD_compares_242 : decode M_MD_compares.2.1 242 = .ok (.getfield 46, 3) := by decide +kernel
theorem d_MD_compares_245 : decode M_MD_compares.2.1 245 = .ok (.getfield 223, 3) := by decide +kernel
theorem d_MD_compares_248 : decode M_MD_compares.2.1 248 = .ok (.iload_n 1, 1) := by decide +kernel
theorem d_MD_compares_249 : decode M_MD_compares.2.1 249 = .ok (.iaload, 1) := by decide +kernel
theorem d_MD_compares_250 : decode M_MD_compares.2.1 250 = .ok (.bipush 7, 2) := by decide +kernel
theorem d_MD_compares_252 : decode M_MD_compares.2.1 252 = .ok (.if_icmp .ne 7, 3) := by decide +kernel
theorem d_MD_compares_255 : decode M_MD_compares.2.1 255 = .ok (.iconst 1, 1) := by decide +kernel
theorem d_MD_compares_256 : decode M_MD_compares.2.1 256 = .ok (.goto 4, 3) := by decide +kernel
theorem d_MD_compares_259 : decode M_MD_compares.2.1 259 = .ok (.iconst 0, 1) := by decide +kernel
theorem d_MD_compares_260 : decode M_MD_compares.2.1 260 = .ok (.if_icmp .ne 7, 3) := by decide +kernel
theorem d_MD_compares_263 : decode M_MD_compares.2.1 263 = .ok (.iconst 1, 1) := by decide +kernel
theorem d_MD_compares_264 : decode M_MD_compares.2.1 264 = .ok (.goto 4, 3) := by decide +kernel
theorem d_MD_compares_267 : decode M_MD_compares.2.1 267 = .ok (.iconst 0, 1) := by decide +kernel
theorem d_MD_compares_268 : decode M_MD_compares.2.1 268 = .ok (.ireturn, 1) := by decide +kernel
theorem k_MD_compares : x_kV M_MD_compares "QuestionReaderModel" 1 := ⟨⟨by decide, Or.inl ⟨w_1514, rfl⟩⟩, w_1513, ws_77, ⟨by decide, by decide⟩, by decide +kernel⟩
def M_MD_holds : x_M := (⟨"QuestionReaderModel", "holds", "()Z"⟩, prog_14_method_62_code, 4, some (.boolean), [])
theorem d_MD_holds_0 : decode M_MD_holds.2.1 0 = .ok (.aload_n 0, 1) := by decide +kernel
theorem d_MD_holds_1 : decode M_MD_holds.2.1 1 = .ok (.aload_n 0, 1) := by decide +kernel
theorem d_MD_holds_2 : decode M_MD_holds.2.1 2 = .ok (.getfield 280, 3) := by decide +kernel
theorem d_MD_holds_5 : decode M_MD_holds.2.1 5 = .ok (.ifCond .eq 7, 3) := by decide +kernel
theorem d_MD_holds_8 : decode M_MD_holds.2.1 8 = .ok (.iconst 0, 1) := by decide +kernel
theorem d_MD_holds_9 : decode M_MD_holds.2.1 9 = .ok (.goto 4, 3) := by decide +kernel
theorem d_MD_holds_12 : decode M_MD_holds.2.1 12 = .ok (.iconst 1, 1) := by decide +kernel
theorem d_MD_holds_13 : decode M_MD_holds.2.1 13 = .ok (.putfield 57, 3) := by decide +kernel
theorem d_MD_holds_16 : decode M_MD_holds.2.1 16 = .ok (.aload_n 0, 1) := by decide +kernel
theorem d_MD_holds_17 : decode M_MD_holds.2.1 17 = .ok (.getfield 57, 3) := by decide +kernel
theorem d_MD_holds_20 : decode M_MD_holds.2.1 20 = .ok (.ifCond .le 5, 3) := by decide +kernel
theorem d_MD_holds_23 : decode M_MD_holds.2.1 23 = .ok (.iconst 0, 1) := by decide +kernel
theorem d_MD_holds_24 : decode M_MD_holds.2.1 24 = .ok (.ireturn, 1) := by decide +kernel
theorem d_MD_holds_25 : decode M_MD_holds.2.1 25 = .ok (.iconst 0, 1) := by decide +kernel
theorem d_MD_holds_26 : decode M_MD_holds.2.1 26 = .ok (.istore_n 1, 1) := by decide +kernel
theorem d_MD_holds_27 : decode M_MD_holds.2.1 27 = .ok (.iconst 0, 1) := by decide +kernel
theorem d_MD_holds_28 : decode M_MD_holds.2.1 28 = .ok (.istore_n 2, 1) := by decide +kernel
theorem d_MD_holds_29 : decode M_MD_holds.2.1 29 = .ok (.iload_n 2, 1) := by decide +kernel
theorem d_MD_holds_30 : decode M_MD_holds.2.1 30 = .ok (.aload_n 0, 1) := by decide +kernel
theorem d_MD_holds_31 : decode M_MD_holds.2.1 31 = .ok (.getfield 46, 3) := by decide +kernel
theorem d_MD_holds_34 : decode M_MD_holds.2.1 34 = .ok (.getfield 196, 3) := by decide +kernel
theorem d_MD_holds_37 : decode M_MD_holds.2.1 37 = .ok (.if_icmp .ge 146, 3) := by decide +kernel
theorem d_MD_holds_40 : decode M_MD_holds.2.1 40 = .ok (.aload_n 0, 1) := by decide +kernel
theorem d_MD_holds_41 : decode M_MD_holds.2.1 41 = .ok (.getfield 46, 3) := by decide +kernel
theorem d_MD_holds_44 : decode M_MD_holds.2.1 44 = .ok (.getfield 194, 3) := by decide +kernel
theorem d_MD_holds_47 : decode M_MD_holds.2.1 47 = .ok (.iload_n 2, 1) := by decide +kernel
theorem d_MD_holds_48 : decode M_MD_holds.2.1 48 = .ok (.iaload, 1) := by decide +kernel
theorem d_MD_holds_49 : decode M_MD_holds.2.1 49 = .ok (.istore_n 3, 1) := by decide +kernel
theorem d_MD_holds_50 : decode M_MD_holds.2.1 50 = .ok (.iload_n 3, 1) := by decide +kernel
theorem d_MD_holds_51 : decode M_MD_holds.2.1 51 = .ok (.ifCond .lt 20, 3) := by decide +kernel
theorem d_MD_holds_54 : decode M_MD_holds.2.1 54 = .ok (.aload_n 0, 1) := by decide +kernel
theorem d_MD_holds_55 : decode M_MD_holds.2.1 55 = .ok (.getfield 53, 3) := by decide +kernel
theorem d_MD_holds_58 : decode M_MD_holds.2.1 58 = .ok (.iload_n 1, 1) := by decide +kernel
theorem d_MD_holds_59 : decode M_MD_holds.2.1 59 = .ok (.aload_n 0, 1) := by decide +kernel
theorem d_MD_holds_60 : decode M_MD_holds.2.1 60 = .ok (.iload_n 3, 1) := by decide +kernel
theorem d_MD_holds_61 : decode M_MD_holds.2.1 61 = .ok (.invokevirtual 319, 3) := by decide +kernel
theorem d_MD_holds_64 : decode M_MD_holds.2.1 64 = .ok (.bastore, 1) := by decide +kernel
theorem d_MD_holds_65 : decode M_MD_holds.2.1 65 = .ok (.iinc 1 1, 3) := by decide +kernel
theorem d_MD_holds_68 : decode M_MD_holds.2.1 68 = .ok (.goto 109, 3) := by decide +kernel
theorem d_MD_holds_71 : decode M_MD_holds.2.1 71 = .ok (.iload_n 3, 1) := by decide +kernel
theorem d_MD_holds_72 : decode M_MD_holds.2.1 72 = .ok (.iconst (-1), 1) := by decide +kernel
theorem d_MD_holds_73 : decode M_MD_holds.2.1 73 = .ok (.if_icmp .ne 30, 3) := by decide +kernel
theorem d_MD_holds_76 : decode M_MD_holds.2.1 76 = .ok (.aload_n 0, 1) := by decide +kernel
theorem d_MD_holds_77 : decode M_MD_holds.2.1 77 = .ok (.getfield 53, 3) := by decide +kernel
theorem d_MD_holds_80 : decode M_MD_holds.2.1 80 = .ok (.iload_n 1, 1) := by decide +kernel
theorem d_MD_holds_81 : decode M_MD_holds.2.1 81 = .ok (.iconst 1, 1) := by decide +kernel
theorem d_MD_holds_82 : decode M_MD_holds.2.1 82 = .ok (.isub, 1) := by decide +kernel
theorem d_MD_holds_83 : decode M_MD_holds.2.1 83 = .ok (.aload_n 0, 1) := by decide +kernel
theorem d_MD_holds_84 : decode M_MD_holds.2.1 84 = .ok (.getfield 53, 3) := by decide +kernel
theorem d_MD_holds_87 : decode M_MD_holds.2.1 87 = .ok (.iload_n 1, 1) := by decide +kernel
theorem d_MD_holds_88 : decode M_MD_holds.2.1 88 = .ok (.iconst 1, 1) := by decide +kernel
theorem d_MD_holds_89 : decode M_MD_holds.2.1 89 = .ok (.isub, 1) := by decide +kernel
theorem d_MD_holds_90 : decode M_MD_holds.2.1 90 = .ok (.baload, 1) := by decide +kernel
theorem d_MD_holds_91 : decode M_MD_holds.2.1 91 = .ok (.ifCond .ne 7, 3) := by decide +kernel
theorem d_MD_holds_94 : decode M_MD_holds.2.1 94 = .ok (.iconst 1, 1) := by decide +kernel
theorem d_MD_holds_95 : decode M_MD_holds.2.1 95 = .ok (.goto 4, 3) := by decide +kernel
theorem d_MD_holds_98 : decode M_MD_holds.2.1 98 = .ok (.iconst 0, 1) := by decide +kernel
theorem d_MD_holds_99 : decode M_MD_holds.2.1 99 = .ok (.bastore, 1) := by decide +kernel
theorem d_MD_holds_100 : decode M_MD_holds.2.1 100 = .ok (.goto 77, 3) := by decide +kernel
theorem d_MD_holds_103 : decode M_MD_holds.2.1 103 = .ok (.aload_n 0, 1) := by decide +kernel
theorem d_MD_holds_104 : decode M_MD_holds.2.1 104 = .ok (.getfield 53, 3) := by decide +kernel
theorem d_MD_holds_107 : decode M_MD_holds.2.1 107 = .ok (.iload_n 1, 1) := by decide +kernel
theorem d_MD_holds_108 : decode M_MD_holds.2.1 108 = .ok (.iconst 2, 1) := by decide +kernel
theorem d_MD_holds_109 : decode M_MD_holds.2.1 109 = .ok (.isub, 1) := by decide +kernel
theorem d_MD_holds_110 : decode M_MD_holds.2.1 110 = .ok (.iload_n 3, 1) := by decide +kernel
theorem d_MD_holds_111 : decode M_MD_holds.2.1 111 = .ok (.bipush (-2), 2) := by decide +kernel
theorem d_MD_holds_113 : decode M_MD_holds.2.1 113 = .ok (.if_icmp .ne 33, 3) := by decide +kernel
theorem d_MD_holds_116 : decode M_MD_holds.2.1 116 = .ok (.aload_n 0, 1) := by decide +kernel
theorem d_MD_holds_117 : decode M_MD_holds.2.1 117 = .ok (.getfield 53, 3) := by decide +kernel
theorem d_MD_holds_120 : decode M_MD_holds.2.1 120 = .ok (.iload_n 1, 1) := by decide +kernel
theorem d_MD_holds_121 : decode M_MD_holds.2.1 121 = .ok (.iconst 2, 1) := by decide +kernel
theorem d_MD_holds_122 : decode M_MD_holds.2.1 122 = .ok (.isub, 1) := by decide +kernel
theorem d_MD_holds_123 : decode M_MD_holds.2.1 123 = .ok (.baload, 1) := by decide +kernel
theorem d_MD_holds_124 : decode M_MD_holds.2.1 124 = .ok (.ifCond .eq 18, 3) := by decide +kernel
theorem d_MD_holds_127 : decode M_MD_holds.2.1 127 = .ok (.aload_n 0, 1) := by decide +kernel
theorem d_MD_holds_128 : decode M_MD_holds.2.1 128 = .ok (.getfield 53, 3) := by decide +kernel
theorem d_MD_holds_131 : decode M_MD_holds.2.1 131 = .ok (.iload_n 1, 1) := by decide +kernel
theorem d_MD_holds_132 : decode M_MD_holds.2.1 132 = .ok (.iconst 1, 1) := by decide +kernel
theorem d_MD_holds_133 : decode M_MD_holds.2.1 133 = .ok (.isub, 1) := by decide +kernel
theorem d_MD_holds_134 : decode M_MD_holds.2.1 134 = .ok (.baload, 1) := by decide +kernel
theorem d_MD_holds_135 : decode M_MD_holds.2.1 135 = .ok (.ifCond .eq 7, 3) := by decide +kernel
theorem d_MD_holds_138 : decode M_MD_holds.2.1 138 = .ok (.iconst 1, 1) := by decide +kernel
theorem d_MD_holds_139 : decode M_MD_holds.2.1 139 = .ok (.goto 34, 3) := by decide +kernel
theorem d_MD_holds_142 : decode M_MD_holds.2.1 142 = .ok (.iconst 0, 1) := by decide +kernel
theorem d_MD_holds_143 : decode M_MD_holds.2.1 143 = .ok (.goto 30, 3) := by decide +kernel
theorem d_MD_holds_146 : decode M_MD_holds.2.1 146 = .ok (.aload_n 0, 1) := by decide +kernel
theorem d_MD_holds_147 : decode M_MD_holds.2.1 147 = .ok (.getfield 53, 3) := by decide +kernel
theorem d_MD_holds_150 : decode M_MD_holds.2.1 150 = .ok (.iload_n 1, 1) := by decide +kernel
theorem d_MD_holds_151 : decode M_MD_holds.2.1 151 = .ok (.iconst 2, 1) := by decide +kernel
theorem d_MD_holds_152 : decode M_MD_holds.2.1 152 = .ok (.isub, 1) := by decide +kernel
theorem d_MD_holds_153 : decode M_MD_holds.2.1 153 = .ok (.baload, 1) := by decide +kernel
theorem d_MD_holds_154 : decode M_MD_holds.2.1 154 = .ok (.ifCond .ne 14, 3) := by decide +kernel
theorem d_MD_holds_157 : decode M_MD_holds.2.1 157 = .ok (.aload_n 0, 1) := by decide +kernel
theorem d_MD_holds_158 : decode M_MD_holds.2.1 158 = .ok (.getfield 53, 3) := by decide +kernel
theorem d_MD_holds_161 : decode M_MD_holds.2.1 161 = .ok (.iload_n 1, 1) := by decide +kernel
theorem d_MD_holds_162 : decode M_MD_holds.2.1 162 = .ok (.iconst 1, 1) := by decide +kernel
theorem d_MD_holds_163 : decode M_MD_holds.2.1 163 = .ok (.isub, 1) := by decide +kernel
theorem d_MD_holds_164 : decode M_MD_holds.2.1 164 = .ok (.baload, 1) := by decide +kernel
theorem d_MD_holds_165 : decode M_MD_holds.2.1 165 = .ok (.ifCond .eq 7, 3) := by decide +kernel
theorem d_MD_holds_168 : decode M_MD_holds.2.1 168 = .ok (.iconst 1, 1) := by decide +kernel
theorem d_MD_holds_169 : decode M_MD_holds.2.1 169 = .ok (.goto 4, 3) := by decide +kernel
theorem d_MD_holds_172 : decode M_MD_holds.2.1 172 = .ok (.iconst 0, 1) := by decide +kernel
theorem d_MD_holds_173 : decode M_MD_holds.2.1 173 = .ok (.bastore, 1) := by decide +kernel
theorem d_MD_holds_174 : decode M_MD_holds.2.1 174 = .ok (.iinc 1 (-1), 3) := by decide +kernel
theorem d_MD_holds_177 : decode M_MD_holds.2.1 177 = .ok (.iinc 2 1, 3) := by decide +kernel
theorem d_MD_holds_180 : decode M_MD_holds.2.1 180 = .ok (.goto (-151), 3) := by decide +kernel
theorem d_MD_holds_183 : decode M_MD_holds.2.1 183 = .ok (.iload_n 1, 1) := by decide +kernel
theorem d_MD_holds_184 : decode M_MD_holds.2.1 184 = .ok (.ifCond .eq 12, 3) := by decide +kernel
theorem d_MD_holds_187 : decode M_MD_holds.2.1 187 = .ok (.aload_n 0, 1) := by decide +kernel
theorem d_MD_holds_188 : decode M_MD_holds.2.1 188 = .ok (.getfield 53, 3) := by decide +kernel
theorem d_MD_holds_191 : decode M_MD_holds.2.1 191 = .ok (.iconst 0, 1) := by decide +kernel
theorem d_MD_holds_192 : decode M_MD_holds.2.1 192 = .ok (.baload, 1) := by decide +kernel
theorem d_MD_holds_193 : decode M_MD_holds.2.1 193 = .ok (.ifCond .eq 7, 3) := by decide +kernel
theorem d_MD_holds_196 : decode M_MD_holds.2.1 196 = .ok (.iconst 1, 1) := by decide +kernel
theorem d_MD_holds_197 : decode M_MD_holds.2.1 197 = .ok (.goto 4, 3) := by decide +kernel
theorem d_MD_holds_200 : decode M_MD_holds.2.1 200 = .ok (.iconst 0, 1) := by decide +kernel
theorem d_MD_holds_201 : decode M_MD_holds.2.1 201 = .ok (.ireturn, 1) := by decide +kernel
theorem k_MD_holds : x_kV M_MD_holds "QuestionReaderModel" 0 := ⟨⟨by decide, Or.inl ⟨w_1510, rfl⟩⟩, w_1508, w_1509, ⟨by decide, by decide⟩, by decide +kernel⟩
def B_MD_letter_57   (s0 : Int32) (m : x_m) : Option (Int32 × x_m) := some (s0, m)
theorem b_MD_letter_57 {G : x_G} {ex : Bool} {r : Int32 × x_m}   {s0 : Int32} {m : x_m} (h : B_MD_letter_57 s0 m = some r) : x_W G M_MD_letter (x_rd 1) (x_Q G (x_rd 1) ex (x_pi r)) ex x_np (x_hp m) 0 0 [] [.int s0] 57 := by
  unfold B_MD_letter_57 at h
  cases h
  exact x_ri d_MD_letter_57 rfl rfl
def B_MD_letter_18   (l1 : Int32) (l2 : Int32) (s0 : Int32) (m : x_m) : Option (Int32 × x_m) := (if ((x_wS m 387 1 s0).1 387 1) ≤ 0 then (if x_ix l1 48 = true then (if ((x_wS m 387 1 s0).2.1 394 l1.toNatClampNeg) ≤ l2 then B_MD_letter_57 ((-1)) (x_wS m 387 1 s0) else (if x_ix ((40 * l1) + l2) 1920 = true then B_MD_letter_57 ((x_wS m 387 1 s0).2.1 393 ((40 * l1) + l2).toNatClampNeg) (x_wS m 387 1 s0) else none)) else none) else B_MD_letter_57 0 (x_wS m 387 1 s0))
theorem b_MD_letter_18 {G : x_G} {ex : Bool} {r : Int32 × x_m}   {l1 : Int32} {l2 : Int32} {s0 : Int32} {m : x_m} (h : B_MD_letter_18 l1 l2 s0 m = some r) : x_W G M_MD_letter (x_rd 1) (x_Q G (x_rd 1) ex (x_pi r)) ex x_np (x_hp m) 0 0 [(0, .ref 387), (1, .int l1), (2, .int l2)] [.int s0, .ref 387] 18 := by
  unfold B_MD_letter_18 at h
  refine x_pI d_MD_letter_18 (f_MD_57 rfl) tb_MD rfl sh_MD hp_MD rfl ⟨rfl, rfl⟩ ?_
  refine x_aload_n d_MD_letter_21 rfl rfl ?_
  refine x_gI d_MD_letter_22 (f_MD_57 rfl) sh_MD hp_MD rfl ?_
  refine x_if_le (tgt := 32) d_MD_letter_25 (by decide) (fun c_ => ?_) (fun c_ => ?_)
  · replace h := x_it h c_
    refine x_iload_n d_MD_letter_32 rfl rfl ?_
    refine x_aload_n d_MD_letter_33 rfl rfl ?_
    refine x_gC d_MD_letter_34 (f_MD_40 rfl) sh_MD hp_MD rfl ?_
    refine x_iload_n d_MD_letter_37 rfl rfl ?_
    obtain ⟨g_38, h⟩ := x_gd h
    refine x_lI d_MD_letter_38 rfl sa_MD_lengths ha_MD_lengths g_38 ?_
    refine x_icmp_ge (tgt := 56) d_MD_letter_39 (by decide) (fun c_ => ?_) (fun c_ => ?_)
    · replace h := x_it h c_
      refine x_iconst (v := (-1)) d_MD_letter_56 (by decide) ?_
      refine x_sbk [] (lv2 := []) rfl ?_; exact b_MD_letter_57 h
    · replace h := x_ie h c_
      refine x_aload_n d_MD_letter_42 rfl rfl ?_
      refine x_gC d_MD_letter_43 (f_MD_37 rfl) sh_MD hp_MD rfl ?_
      refine x_bipush (v := 40) d_MD_letter_46 (by decide) ?_
      refine x_iload_n d_MD_letter_48 rfl rfl ?_
      refine x_imul d_MD_letter_49 ?_
      refine x_iload_n d_MD_letter_50 rfl rfl ?_
      refine x_iadd d_MD_letter_51 ?_
      obtain ⟨g_52, h⟩ := x_gd h
      refine x_lB d_MD_letter_52 rfl sa_MD_letters ha_MD_letters g_52 ?_
      refine x_goto (tgt := 57) d_MD_letter_53 (by decide) ?_
      refine x_sbk [] (lv2 := []) rfl ?_; exact b_MD_letter_57 h
  · replace h := x_ie h c_
    refine x_iconst (v := 0) d_MD_letter_28 (by decide) ?_
    refine x_goto (tgt := 57) d_MD_letter_29 (by decide) ?_
    refine x_sbk [] (lv2 := []) rfl ?_; exact b_MD_letter_57 h
def B_MD_letter_17   (l1 : Int32) (l2 : Int32) (m : x_m) : Option (Int32 × x_m) := B_MD_letter_18 l1 l2 1 m
theorem b_MD_letter_17 {G : x_G} {ex : Bool} {r : Int32 × x_m}   {l1 : Int32} {l2 : Int32} {m : x_m} (h : B_MD_letter_17 l1 l2 m = some r) : x_W G M_MD_letter (x_rd 1) (x_Q G (x_rd 1) ex (x_pi r)) ex x_np (x_hp m) 0 0 [(0, .ref 387), (1, .int l1), (2, .int l2)] [.ref 387] 17 := by
  unfold B_MD_letter_17 at h
  refine x_iconst (v := 1) d_MD_letter_17 (by decide) ?_
  exact b_MD_letter_18 h
def F_MD_letter  (a1 : Int32) (a2 : Int32) (m : x_m) : Option (Int32 × x_m) := ((F_MD_isNamed a1 m).bind fun r3 => (if r3.1 = 0 then B_MD_letter_17 a1 a2 r3.2 else (if a2 < 0 then B_MD_letter_17 a1 a2 r3.2 else B_MD_letter_18 a1 a2 0 r3.2)))
theorem c_MD_letter {G : x_G} {ex : Bool} {r : Int32 × x_m}  {a1 : Int32} {a2 : Int32} {m : x_m} (h : F_MD_letter a1 a2 m = some r) : x_R G M_MD_letter (x_rd 1) ex [.ref 387, .int a1, .int a2] x_np (x_hp m) (x_pi r) := by
  unfold F_MD_letter at h
  show x_W G M_MD_letter (x_rd 1) (x_Q G (x_rd 1) ex (x_pi r)) ex x_np (x_hp m) 0 0 [(0, .ref 387), (1, .int a1), (2, .int a2)] [] 0
  refine x_aload_n d_MD_letter_0 rfl rfl ?_
  refine x_aload_n d_MD_letter_1 rfl rfl ?_
  refine x_iload_n d_MD_letter_2 rfl rfl ?_
  obtain ⟨r3, e3, h⟩ := x_bd h
  refine x_cVi (M2 := M_MD_isNamed) (As := [.int a1]) (st := [.ref 387]) d_MD_letter_3 w_1487 k_MD_isNamed (c_MD_isNamed e3) rfl sh_MD hp_MD rfl ⟨Nat.le_of_ble_eq_true rfl, Nat.le_of_ble_eq_true rfl⟩ (Nat.le_of_ble_eq_true rfl) (Nat.le_of_ble_eq_true rfl) rfl ?_
  refine x_if_eq (tgt := 17) d_MD_letter_6 (by decide) (fun c_ => ?_) (fun c_ => ?_)
  · replace h := x_it h c_
    exact b_MD_letter_17 h
  · replace h := x_ie h c_
    refine x_iload_n d_MD_letter_9 rfl rfl ?_
    refine x_if_lt (tgt := 17) d_MD_letter_10 (by decide) (fun c_ => ?_) (fun c_ => ?_)
    · replace h := x_it h c_
      exact b_MD_letter_17 h
    · replace h := x_ie h c_
      refine x_iconst (v := 0) d_MD_letter_13 (by decide) ?_
      refine x_goto (tgt := 18) d_MD_letter_14 (by decide) ?_
      exact b_MD_letter_18 h
def B_MD_group_51   (s0 : Int32) (m : x_m) : Option (Int32 × x_m) := some (s0, m)
theorem b_MD_group_51 {G : x_G} {ex : Bool} {r : Int32 × x_m}   {s0 : Int32} {m : x_m} (h : B_MD_group_51 s0 m = some r) : x_W G M_MD_group (x_rd 0) (x_Q G (x_rd 0) ex (x_pi r)) ex x_np (x_hp m) 0 0 [] [.int s0] 51 := by
  unfold B_MD_group_51 at h
  cases h
  exact x_ri d_MD_group_51 rfl rfl
def B_MD_group_28   (l1 : Int32) (s0 : Int32) (m : x_m) : Option (Int32 × x_m) := (if ((x_wS m 387 1 s0).1 387 1) ≤ 0 then (if x_mq ((x_wS m 387 1 s0).2.2.1 387 21) = true then (if x_ix l1 8 = true then B_MD_group_51 ((x_wS m 387 1 s0).2.1 ((x_wS m 387 1 s0).2.2.1 387 21 + 4) l1.toNatClampNeg) (x_wS m 387 1 s0) else none) else none) else B_MD_group_51 0 (x_wS m 387 1 s0))
theorem b_MD_group_28 {G : x_G} {ex : Bool} {r : Int32 × x_m}   {l1 : Int32} {s0 : Int32} {m : x_m} (h : B_MD_group_28 l1 s0 m = some r) : x_W G M_MD_group (x_rd 0) (x_Q G (x_rd 0) ex (x_pi r)) ex x_np (x_hp m) 0 0 [(0, .ref 387), (1, .int l1)] [.int s0, .ref 387] 28 := by
  unfold B_MD_group_28 at h
  refine x_pI d_MD_group_28 (f_MD_57 rfl) tb_MD rfl sh_MD hp_MD rfl ⟨rfl, rfl⟩ ?_
  refine x_aload_n d_MD_group_31 rfl rfl ?_
  refine x_gI d_MD_group_32 (f_MD_57 rfl) sh_MD hp_MD rfl ?_
  refine x_if_le (tgt := 42) d_MD_group_35 (by decide) (fun c_ => ?_) (fun c_ => ?_)
  · replace h := x_it h c_
    refine x_aload_n d_MD_group_42 rfl rfl ?_
    refine x_gR d_MD_group_43 (f_MD_46 rfl) sh_MD hp_MD rfl ?_
    obtain ⟨g_43, h⟩ := x_gd h
    refine x_gCN d_MD_group_46 (f_MD_243 rfl) (sh_MQ (x_mq_ok g_43)) (hp_MQ (x_mq_ok g_43)) rfl ?_
    refine x_iload_n d_MD_group_49 rfl rfl ?_
    obtain ⟨g_50, h⟩ := x_gd h
    refine x_lI d_MD_group_50 rfl (sa_MQ_group (x_mq_ok g_43)) (ha_MQ_group (x_mq_ok g_43)) g_50 ?_
    refine x_sbk [] (lv2 := []) rfl ?_; exact b_MD_group_51 h
  · replace h := x_ie h c_
    refine x_iconst (v := 0) d_MD_group_38 (by decide) ?_
    refine x_goto (tgt := 51) d_MD_group_39 (by decide) ?_
    refine x_sbk [] (lv2 := []) rfl ?_; exact b_MD_group_51 h
def B_MD_group_27   (l1 : Int32) (m : x_m) : Option (Int32 × x_m) := B_MD_group_28 l1 1 m
theorem b_MD_group_27 {G : x_G} {ex : Bool} {r : Int32 × x_m}   {l1 : Int32} {m : x_m} (h : B_MD_group_27 l1 m = some r) : x_W G M_MD_group (x_rd 0) (x_Q G (x_rd 0) ex (x_pi r)) ex x_np (x_hp m) 0 0 [(0, .ref 387), (1, .int l1)] [.ref 387] 27 := by
  unfold B_MD_group_27 at h
  refine x_iconst (v := 1) d_MD_group_27 (by decide) ?_
  exact b_MD_group_28 h
def F_MD_group  (a1 : Int32) (m : x_m) : Option (Int32 × x_m) := (if (m.1 387 23) = 0 then B_MD_group_27 a1 m else (if a1 < 0 then B_MD_group_27 a1 m else (if x_mq (m.2.2.1 387 21) = true then (if (m.1 (m.2.2.1 387 21) 4) ≤ a1 then B_MD_group_27 a1 m else B_MD_group_28 a1 0 m) else none)))
theorem c_MD_group {G : x_G} {ex : Bool} {r : Int32 × x_m}  {a1 : Int32} {m : x_m} (h : F_MD_group a1 m = some r) : x_R G M_MD_group (x_rd 0) ex [.ref 387, .int a1] x_np (x_hp m) (x_pi r) := by
  unfold F_MD_group at h
  show x_W G M_MD_group (x_rd 0) (x_Q G (x_rd 0) ex (x_pi r)) ex x_np (x_hp m) 0 0 [(0, .ref 387), (1, .int a1)] [] 0
  refine x_aload_n d_MD_group_0 rfl rfl ?_
  refine x_aload_n d_MD_group_1 rfl rfl ?_
  refine x_gI d_MD_group_2 (f_MD_280 rfl) sh_MD hp_MD rfl ?_
  refine x_if_eq (tgt := 27) d_MD_group_5 (by decide) (fun c_ => ?_) (fun c_ => ?_)
  · replace h := x_it h c_
    exact b_MD_group_27 h
  · replace h := x_ie h c_
    refine x_iload_n d_MD_group_8 rfl rfl ?_
    refine x_if_lt (tgt := 27) d_MD_group_9 (by decide) (fun c_ => ?_) (fun c_ => ?_)
    · replace h := x_it h c_
      exact b_MD_group_27 h
    · replace h := x_ie h c_
      refine x_iload_n d_MD_group_12 rfl rfl ?_
      refine x_aload_n d_MD_group_13 rfl rfl ?_
      refine x_gR d_MD_group_14 (f_MD_46 rfl) sh_MD hp_MD rfl ?_
      obtain ⟨g_14, h⟩ := x_gd h
      refine x_gIN d_MD_group_17 (f_MD_240 rfl) (sh_MQ (x_mq_ok g_14)) (hp_MQ (x_mq_ok g_14)) rfl ?_
      refine x_icmp_ge (tgt := 27) d_MD_group_20 (by decide) (fun c_ => ?_) (fun c_ => ?_)
      · replace h := x_it h c_
        exact b_MD_group_27 h
      · replace h := x_ie h c_
        refine x_iconst (v := 0) d_MD_group_23 (by decide) ?_
        refine x_goto (tgt := 28) d_MD_group_24 (by decide) ?_
        exact b_MD_group_28 h
def B_MD_set_51   (s0 : Int32) (m : x_m) : Option (Int32 × x_m) := some (s0, m)
theorem b_MD_set_51 {G : x_G} {ex : Bool} {r : Int32 × x_m}   {s0 : Int32} {m : x_m} (h : B_MD_set_51 s0 m = some r) : x_W G M_MD_set (x_rd 0) (x_Q G (x_rd 0) ex (x_pi r)) ex x_np (x_hp m) 0 0 [] [.int s0] 51 := by
  unfold B_MD_set_51 at h
  cases h
  exact x_ri d_MD_set_51 rfl rfl
def B_MD_set_28   (l1 : Int32) (s0 : Int32) (m : x_m) : Option (Int32 × x_m) := (if ((x_wS m 387 1 s0).1 387 1) ≤ 0 then (if x_mq ((x_wS m 387 1 s0).2.2.1 387 21) = true then (if x_ix l1 32 = true then B_MD_set_51 ((x_wS m 387 1 s0).2.1 ((x_wS m 387 1 s0).2.2.1 387 21 + 7) l1.toNatClampNeg) (x_wS m 387 1 s0) else none) else none) else B_MD_set_51 0 (x_wS m 387 1 s0))
theorem b_MD_set_28 {G : x_G} {ex : Bool} {r : Int32 × x_m}   {l1 : Int32} {s0 : Int32} {m : x_m} (h : B_MD_set_28 l1 s0 m = some r) : x_W G M_MD_set (x_rd 0) (x_Q G (x_rd 0) ex (x_pi r)) ex x_np (x_hp m) 0 0 [(0, .ref 387), (1, .int l1)] [.int s0, .ref 387] 28 := by
  unfold B_MD_set_28 at h
  refine x_pI d_MD_set_28 (f_MD_57 rfl) tb_MD rfl sh_MD hp_MD rfl ⟨rfl, rfl⟩ ?_
  refine x_aload_n d_MD_set_31 rfl rfl ?_
  refine x_gI d_MD_set_32 (f_MD_57 rfl) sh_MD hp_MD rfl ?_
  refine x_if_le (tgt := 42) d_MD_set_35 (by decide) (fun c_ => ?_) (fun c_ => ?_)
  · replace h := x_it h c_
    refine x_aload_n d_MD_set_42 rfl rfl ?_
    refine x_gR d_MD_set_43 (f_MD_46 rfl) sh_MD hp_MD rfl ?_
    obtain ⟨g_43, h⟩ := x_gd h
    refine x_gCN d_MD_set_46 (f_MD_267 rfl) (sh_MQ (x_mq_ok g_43)) (hp_MQ (x_mq_ok g_43)) rfl ?_
    refine x_iload_n d_MD_set_49 rfl rfl ?_
    obtain ⟨g_50, h⟩ := x_gd h
    refine x_lI d_MD_set_50 rfl (sa_MQ_set (x_mq_ok g_43)) (ha_MQ_set (x_mq_ok g_43)) g_50 ?_
    refine x_sbk [] (lv2 := []) rfl ?_; exact b_MD_set_51 h
  · replace h := x_ie h c_
    refine x_iconst (v := 0) d_MD_set_38 (by decide) ?_
    refine x_goto (tgt := 51) d_MD_set_39 (by decide) ?_
    refine x_sbk [] (lv2 := []) rfl ?_; exact b_MD_set_51 h
def B_MD_set_27   (l1 : Int32) (m : x_m) : Option (Int32 × x_m) := B_MD_set_28 l1 1 m
theorem b_MD_set_27 {G : x_G} {ex : Bool} {r : Int32 × x_m}   {l1 : Int32} {m : x_m} (h : B_MD_set_27 l1 m = some r) : x_W G M_MD_set (x_rd 0) (x_Q G (x_rd 0) ex (x_pi r)) ex x_np (x_hp m) 0 0 [(0, .ref 387), (1, .int l1)] [.ref 387] 27 := by
  unfold B_MD_set_27 at h
  refine x_iconst (v := 1) d_MD_set_27 (by decide) ?_
  exact b_MD_set_28 h
def F_MD_set  (a1 : Int32) (m : x_m) : Option (Int32 × x_m) := (if (m.1 387 23) = 0 then B_MD_set_27 a1 m else (if a1 < 0 then B_MD_set_27 a1 m else (if x_mq (m.2.2.1 387 21) = true then (if (m.1 (m.2.2.1 387 21) 9) ≤ a1 then B_MD_set_27 a1 m else B_MD_set_28 a1 0 m) else none)))
theorem c_MD_set {G : x_G} {ex : Bool} {r : Int32 × x_m}  {a1 : Int32} {m : x_m} (h : F_MD_set a1 m = some r) : x_R G M_MD_set (x_rd 0) ex [.ref 387, .int a1] x_np (x_hp m) (x_pi r) := by
  unfold F_MD_set at h
  show x_W G M_MD_set (x_rd 0) (x_Q G (x_rd 0) ex (x_pi r)) ex x_np (x_hp m) 0 0 [(0, .ref 387), (1, .int a1)] [] 0
  refine x_aload_n d_MD_set_0 rfl rfl ?_
  refine x_aload_n d_MD_set_1 rfl rfl ?_
  refine x_gI d_MD_set_2 (f_MD_280 rfl) sh_MD hp_MD rfl ?_
  refine x_if_eq (tgt := 27) d_MD_set_5 (by decide) (fun c_ => ?_) (fun c_ => ?_)
  · replace h := x_it h c_
    exact b_MD_set_27 h
  · replace h := x_ie h c_
    refine x_iload_n d_MD_set_8 rfl rfl ?_
    refine x_if_lt (tgt := 27) d_MD_set_9 (by decide) (fun c_ => ?_) (fun c_ => ?_)
    · replace h := x_it h c_
      exact b_MD_set_27 h
    · replace h := x_ie h c_
      refine x_iload_n d_MD_set_12 rfl rfl ?_
      refine x_aload_n d_MD_set_13 rfl rfl ?_
      refine x_gR d_MD_set_14 (f_MD_46 rfl) sh_MD hp_MD rfl ?_
      obtain ⟨g_14, h⟩ := x_gd h
      refine x_gIN d_MD_set_17 (f_MD_264 rfl) (sh_MQ (x_mq_ok g_14)) (hp_MQ (x_mq_ok g_14)) rfl ?_
      refine x_icmp_ge (tgt := 27) d_MD_set_20 (by decide) (fun c_ => ?_) (fun c_ => ?_)
      · replace h := x_it h c_
        exact b_MD_set_27 h
      · replace h := x_ie h c_
        refine x_iconst (v := 0) d_MD_set_23 (by decide) ?_
        refine x_goto (tgt := 28) d_MD_set_24 (by decide) ?_
        exact b_MD_set_28 h
def B_MD_pick_49   (l1 : Int32) (l2 : Int32) (s0 : Int32) (m : x_m) : Option (Int32 × x_m) := (if ((x_wS m 387 1 s0).1 387 1) ≤ 0 then (if x_ix l1 8 = true then (if x_ix l1 8 = true then some ((x_wS m 387 1 s0).2.1 392 l1.toNatClampNeg, x_wA (x_wS m 387 1 s0) 392 l1.toNatClampNeg l2) else none) else none) else some (0, x_wS m 387 1 s0))
theorem b_MD_pick_49 {G : x_G} {ex : Bool} {r : Int32 × x_m}   {l1 : Int32} {l2 : Int32} {s0 : Int32} {m : x_m} (h : B_MD_pick_49 l1 l2 s0 m = some r) : x_W G M_MD_pick (x_rd 1) (x_Q G (x_rd 1) ex (x_pi r)) ex x_np (x_hp m) 0 0 [(0, .ref 387), (1, .int l1), (2, .int l2)] [.int s0, .ref 387] 49 := by
  unfold B_MD_pick_49 at h
  refine x_pI d_MD_pick_49 (f_MD_57 rfl) tb_MD rfl sh_MD hp_MD rfl ⟨rfl, rfl⟩ ?_
  refine x_aload_n d_MD_pick_52 rfl rfl ?_
  refine x_gI d_MD_pick_53 (f_MD_57 rfl) sh_MD hp_MD rfl ?_
  refine x_if_le (tgt := 61) d_MD_pick_56 (by decide) (fun c_ => ?_) (fun c_ => ?_)
  · replace h := x_it h c_
    refine x_aload_n d_MD_pick_61 rfl rfl ?_
    refine x_gC d_MD_pick_62 (f_MD_34 rfl) sh_MD hp_MD rfl ?_
    refine x_iload_n d_MD_pick_65 rfl rfl ?_
    obtain ⟨g_66, h⟩ := x_gd h
    refine x_lI d_MD_pick_66 rfl sa_MD_picked ha_MD_picked g_66 ?_
    refine x_istore (lv2 := [(0, .ref 387), (1, .int l1), (2, .int l2), (4, .int ((x_wS m 387 1 s0).2.1 392 l1.toNatClampNeg))]) d_MD_pick_67 (by decide) rfl ?_
    refine x_aload_n d_MD_pick_69 rfl rfl ?_
    refine x_gC d_MD_pick_70 (f_MD_34 rfl) sh_MD hp_MD rfl ?_
    refine x_iload_n d_MD_pick_73 rfl rfl ?_
    refine x_iload_n d_MD_pick_74 rfl rfl ?_
    obtain ⟨g_75, h⟩ := x_gd h
    refine x_sI d_MD_pick_75 rfl sa_MD_picked ha_MD_picked g_75 ?_
    refine x_iload d_MD_pick_76 rfl ?_
    cases h
    exact x_ri d_MD_pick_78 rfl rfl
  · replace h := x_ie h c_
    refine x_iconst (v := 0) d_MD_pick_59 (by decide) ?_
    cases h
    exact x_ri d_MD_pick_60 rfl rfl
def B_MD_pick_27   (l1 : Int32) (l2 : Int32) (s0 : Int32) (m : x_m) : Option (Int32 × x_m) := (if s0 = 0 then B_MD_pick_49 l1 l2 1 m else (if (m.1 387 2) = 0 then B_MD_pick_49 l1 l2 2 m else B_MD_pick_49 l1 l2 0 m))
theorem b_MD_pick_27 {G : x_G} {ex : Bool} {r : Int32 × x_m}   {l1 : Int32} {l2 : Int32} {s0 : Int32} {m : x_m} (h : B_MD_pick_27 l1 l2 s0 m = some r) : x_W G M_MD_pick (x_rd 1) (x_Q G (x_rd 1) ex (x_pi r)) ex x_np (x_hp m) 0 0 [(0, .ref 387), (1, .int l1), (2, .int l2)] [.int s0] 27 := by
  unfold B_MD_pick_27 at h
  refine x_istore_n (lv2 := [(0, .ref 387), (1, .int l1), (2, .int l2), (3, .int s0)]) d_MD_pick_27 rfl (by decide) rfl ?_
  refine x_aload_n d_MD_pick_28 rfl rfl ?_
  refine x_iload_n d_MD_pick_29 rfl rfl ?_
  refine x_if_ne (tgt := 37) d_MD_pick_30 (by decide) (fun c_ => ?_) (fun c_ => ?_)
  · replace h := x_ie h c_
    refine x_aload_n d_MD_pick_37 rfl rfl ?_
    refine x_gI d_MD_pick_38 (f_MD_284 rfl) sh_MD hp_MD rfl ?_
    refine x_if_ne (tgt := 48) d_MD_pick_41 (by decide) (fun c_ => ?_) (fun c_ => ?_)
    · replace h := x_ie h c_
      refine x_iconst (v := 0) d_MD_pick_48 (by decide) ?_
      refine x_sbk [0, 1, 2] (lv2 := [(0, .ref 387), (1, .int l1), (2, .int l2)]) rfl ?_; exact b_MD_pick_49 h
    · replace h := x_it h c_
      refine x_iconst (v := 2) d_MD_pick_44 (by decide) ?_
      refine x_goto (tgt := 49) d_MD_pick_45 (by decide) ?_
      refine x_sbk [0, 1, 2] (lv2 := [(0, .ref 387), (1, .int l1), (2, .int l2)]) rfl ?_; exact b_MD_pick_49 h
  · replace h := x_it h c_
    refine x_iconst (v := 1) d_MD_pick_33 (by decide) ?_
    refine x_goto (tgt := 49) d_MD_pick_34 (by decide) ?_
    refine x_sbk [0, 1, 2] (lv2 := [(0, .ref 387), (1, .int l1), (2, .int l2)]) rfl ?_; exact b_MD_pick_49 h
def B_MD_pick_26   (l1 : Int32) (l2 : Int32) (m : x_m) : Option (Int32 × x_m) := B_MD_pick_27 l1 l2 0 m
theorem b_MD_pick_26 {G : x_G} {ex : Bool} {r : Int32 × x_m}   {l1 : Int32} {l2 : Int32} {m : x_m} (h : B_MD_pick_26 l1 l2 m = some r) : x_W G M_MD_pick (x_rd 1) (x_Q G (x_rd 1) ex (x_pi r)) ex x_np (x_hp m) 0 0 [(0, .ref 387), (1, .int l1), (2, .int l2)] [] 26 := by
  unfold B_MD_pick_26 at h
  refine x_iconst (v := 0) d_MD_pick_26 (by decide) ?_
  exact b_MD_pick_27 h
def F_MD_pick  (a1 : Int32) (a2 : Int32) (m : x_m) : Option (Int32 × x_m) := ((F_MD_isDimension a1 m).bind fun r2 => (if r2.1 = 0 then B_MD_pick_26 a1 a2 r2.2 else (if a2 < 0 then B_MD_pick_26 a1 a2 r2.2 else (if x_ix a1 8 = true then (if (r2.2.2.1 390 a1.toNatClampNeg) ≤ a2 then B_MD_pick_26 a1 a2 r2.2 else B_MD_pick_27 a1 a2 1 r2.2) else none))))
theorem c_MD_pick {G : x_G} {ex : Bool} {r : Int32 × x_m}  {a1 : Int32} {a2 : Int32} {m : x_m} (h : F_MD_pick a1 a2 m = some r) : x_R G M_MD_pick (x_rd 1) ex [.ref 387, .int a1, .int a2] x_np (x_hp m) (x_pi r) := by
  unfold F_MD_pick at h
  show x_W G M_MD_pick (x_rd 1) (x_Q G (x_rd 1) ex (x_pi r)) ex x_np (x_hp m) 0 0 [(0, .ref 387), (1, .int a1), (2, .int a2)] [] 0
  refine x_aload_n d_MD_pick_0 rfl rfl ?_
  refine x_iload_n d_MD_pick_1 rfl rfl ?_
  obtain ⟨r2, e2, h⟩ := x_bd h
  refine x_cVi (M2 := M_MD_isDimension) (As := [.int a1]) (st := []) d_MD_pick_2 w_1459 k_MD_isDimension (c_MD_isDimension e2) rfl sh_MD hp_MD rfl ⟨Nat.le_of_ble_eq_true rfl, Nat.le_of_ble_eq_true rfl⟩ (Nat.le_of_ble_eq_true rfl) (Nat.le_of_ble_eq_true rfl) rfl ?_
  refine x_if_eq (tgt := 26) d_MD_pick_5 (by decide) (fun c_ => ?_) (fun c_ => ?_)
  · replace h := x_it h c_
    exact b_MD_pick_26 h
  · replace h := x_ie h c_
    refine x_iload_n d_MD_pick_8 rfl rfl ?_
    refine x_if_lt (tgt := 26) d_MD_pick_9 (by decide) (fun c_ => ?_) (fun c_ => ?_)
    · replace h := x_it h c_
      exact b_MD_pick_26 h
    · replace h := x_ie h c_
      refine x_iload_n d_MD_pick_12 rfl rfl ?_
      refine x_aload_n d_MD_pick_13 rfl rfl ?_
      refine x_gC d_MD_pick_14 (f_MD_28 rfl) sh_MD hp_MD rfl ?_
      refine x_iload_n d_MD_pick_17 rfl rfl ?_
      obtain ⟨g_18, h⟩ := x_gd h
      refine x_lI d_MD_pick_18 rfl sa_MD_members ha_MD_members g_18 ?_
      refine x_icmp_ge (tgt := 26) d_MD_pick_19 (by decide) (fun c_ => ?_) (fun c_ => ?_)
      · replace h := x_it h c_
        exact b_MD_pick_26 h
      · replace h := x_ie h c_
        refine x_iconst (v := 1) d_MD_pick_22 (by decide) ?_
        refine x_goto (tgt := 27) d_MD_pick_23 (by decide) ?_
        exact b_MD_pick_27 h
def B_MD_compares_268   (s0 : Int32) (m : x_m) : Option (Int32 × x_m) := (if x_b1 s0 = true then some (s0, m) else none)
theorem b_MD_compares_268 {G : x_G} {ex : Bool} {r : Int32 × x_m}   {s0 : Int32} {m : x_m} (h : B_MD_compares_268 s0 m = some r) : x_W G M_MD_compares (x_rd 1) (x_Q G (x_rd 1) ex (x_pi r)) ex x_np (x_hp m) 0 0 [] [.int s0] 268 := by
  unfold B_MD_compares_268 at h
  obtain ⟨g_268, h⟩ := x_gd h
  cases h
  exact x_ri d_MD_compares_268 rfl (x_b1_ok g_268).1
def B_MD_compares_260   (s0 : Int32) (s1 : Int32) (m : x_m) : Option (Int32 × x_m) := (if s1 = s0 then B_MD_compares_268 1 m else B_MD_compares_268 0 m)
theorem b_MD_compares_260 {G : x_G} {ex : Bool} {r : Int32 × x_m}   {s0 : Int32} {s1 : Int32} {m : x_m} (h : B_MD_compares_260 s0 s1 m = some r) : x_W G M_MD_compares (x_rd 1) (x_Q G (x_rd 1) ex (x_pi r)) ex x_np (x_hp m) 0 0 [] [.int s0, .int s1] 260 := by
  unfold B_MD_compares_260 at h
  refine x_icmp_ne (tgt := 267) d_MD_compares_260 (by decide) (fun c_ => ?_) (fun c_ => ?_)
  · replace h := x_ie h c_
    refine x_iconst (v := 0) d_MD_compares_267 (by decide) ?_
    exact b_MD_compares_268 h
  · replace h := x_it h c_
    refine x_iconst (v := 1) d_MD_compares_263 (by decide) ?_
    refine x_goto (tgt := 268) d_MD_compares_264 (by decide) ?_
    exact b_MD_compares_268 h
def B_MD_compares_231  (K195 : Int32 → Int32 → Int32 → Int32 → Int32 → x_m → Option (Int32 × x_m)) (l1 : Int32) (l3 : Int32) (l4 : Int32) (l6 : Int32) (s0 : Int32) (m : x_m) : Option (Int32 × x_m) := K195 l1 l3 l4 s0 (l6 + 1) m
theorem b_MD_compares_231 {G : x_G} {ex : Bool} {r : Int32 × x_m}  {K195 : Int32 → Int32 → Int32 → Int32 → Int32 → x_m → Option (Int32 × x_m)} (hK195 : ∀ (l1 : Int32) (l3 : Int32) (l4 : Int32) (l5 : Int32) (l6 : Int32) (m : x_m), K195 l1 l3 l4 l5 l6 m = some r → x_W G M_MD_compares (x_rd 1) (x_Q G (x_rd 1) ex (x_pi r)) ex x_np (x_hp m) 0 0 [(0, .ref 387), (1, .int l1), (3, .int l3), (4, .int l4), (5, .int l5), (6, .int l6)] [] 195) {l1 : Int32} {l3 : Int32} {l4 : Int32} {l6 : Int32} {s0 : Int32} {m : x_m} (h : B_MD_compares_231 K195 l1 l3 l4 l6 s0 m = some r) : x_W G M_MD_compares (x_rd 1) (x_Q G (x_rd 1) ex (x_pi r)) ex x_np (x_hp m) 0 0 [(0, .ref 387), (1, .int l1), (3, .int l3), (4, .int l4), (6, .int l6)] [.int s0] 231 := by
  unfold B_MD_compares_231 at h
  refine x_istore (lv2 := [(0, .ref 387), (1, .int l1), (3, .int l3), (4, .int l4), (5, .int s0), (6, .int l6)]) d_MD_compares_231 (by decide) rfl ?_
  refine x_iinc (v := l6 + 1) (lv2 := [(0, .ref 387), (1, .int l1), (3, .int l3), (4, .int l4), (5, .int s0), (6, .int (l6 + 1))]) d_MD_compares_233 rfl rfl (by decide) rfl ?_
  refine x_goto (tgt := 195) d_MD_compares_236 (by decide) ?_
  exact hK195 _ _ _ _ _ _ h
def B_MD_compares_226  (K195 : Int32 → Int32 → Int32 → Int32 → Int32 → x_m → Option (Int32 × x_m)) (l1 : Int32) (l3 : Int32) (l4 : Int32) (l6 : Int32) (m : x_m) : Option (Int32 × x_m) := B_MD_compares_231 K195 l1 l3 l4 l6 1 m
theorem b_MD_compares_226 {G : x_G} {ex : Bool} {r : Int32 × x_m}  {K195 : Int32 → Int32 → Int32 → Int32 → Int32 → x_m → Option (Int32 × x_m)} (hK195 : ∀ (l1 : Int32) (l3 : Int32) (l4 : Int32) (l5 : Int32) (l6 : Int32) (m : x_m), K195 l1 l3 l4 l5 l6 m = some r → x_W G M_MD_compares (x_rd 1) (x_Q G (x_rd 1) ex (x_pi r)) ex x_np (x_hp m) 0 0 [(0, .ref 387), (1, .int l1), (3, .int l3), (4, .int l4), (5, .int l5), (6, .int l6)] [] 195) {l1 : Int32} {l3 : Int32} {l4 : Int32} {l6 : Int32} {m : x_m} (h : B_MD_compares_226 K195 l1 l3 l4 l6 m = some r) : x_W G M_MD_compares (x_rd 1) (x_Q G (x_rd 1) ex (x_pi r)) ex x_np (x_hp m) 0 0 [(0, .ref 387), (1, .int l1), (3, .int l3), (4, .int l4), (6, .int l6)] [] 226 := by
  unfold B_MD_compares_226 at h
  refine x_iconst (v := 1) d_MD_compares_226 (by decide) ?_
  refine x_goto (tgt := 231) d_MD_compares_227 (by decide) ?_
  exact b_MD_compares_231 hK195 h
def B_MD_compares_195   : Nat → Int32 → Int32 → Int32 → Int32 → Int32 → x_m → Option (Int32 × x_m)
  | 0, _, _, _, _, _, _ => none
  | f_ + 1, l1, l3, l4, l5, l6, m => (if l4 ≤ l6 then (if x_mq (m.2.2.1 387 21) = true then (if x_ix l1 60 = true then (if (m.2.1 (m.2.2.1 387 21 + 10) l1.toNatClampNeg) = 7 then B_MD_compares_260 1 l5 m else B_MD_compares_260 0 l5 m) else none) else none) else (if l5 = 0 then (if x_mq (m.2.2.1 387 21) = true then (if x_ix ((40 * l1) + l6) 2400 = true then (if (m.2.1 (m.2.2.1 387 21 + 13) ((40 * l1) + l6).toNatClampNeg) = l3 then B_MD_compares_226 (B_MD_compares_195 f_) l1 l3 l4 l6 m else B_MD_compares_231 (B_MD_compares_195 f_) l1 l3 l4 l6 0 m) else none) else none) else B_MD_compares_226 (B_MD_compares_195 f_) l1 l3 l4 l6 m))
theorem b_MD_compares_195 {G : x_G} {ex : Bool} {r : Int32 × x_m}   : ∀ (f_ : Nat) (l1 : Int32) (l3 : Int32) (l4 : Int32) (l5 : Int32) (l6 : Int32) (m : x_m), B_MD_compares_195 f_ l1 l3 l4 l5 l6 m = some r → x_W G M_MD_compares (x_rd 1) (x_Q G (x_rd 1) ex (x_pi r)) ex x_np (x_hp m) 0 0 [(0, .ref 387), (1, .int l1), (3, .int l3), (4, .int l4), (5, .int l5), (6, .int l6)] [] 195 := by
  intro f_
  induction f_ with
  | zero => intro l1 l3 l4 l5 l6 m h; exact nomatch h
  | succ f_ ih =>
    intro l1 l3 l4 l5 l6 m h
    rw [B_MD_compares_195] at h
    have hK195 := ih
    refine x_iload d_MD_compares_195 rfl ?_
    refine x_iload d_MD_compares_197 rfl ?_
    refine x_icmp_ge (tgt := 239) d_MD_compares_199 (by decide) (fun c_ => ?_) (fun c_ => ?_)
    · replace h := x_it h c_
      refine x_iload d_MD_compares_239 rfl ?_
      refine x_aload_n d_MD_compares_241 rfl rfl ?_
      refine x_gR d_MD_compares_242 (f_MD_46 rfl) sh_MD hp_MD rfl ?_
      obtain ⟨g_242, h⟩ := x_gd h
      refine x_gCN d_MD_compares_245 (f_MD_223 rfl) (sh_MQ (x_mq_ok g_242)) (hp_MQ (x_mq_ok g_242)) rfl ?_
      refine x_iload_n d_MD_compares_248 rfl rfl ?_
      obtain ⟨g_249, h⟩ := x_gd h
      refine x_lI d_MD_compares_249 rfl (sa_MQ_how (x_mq_ok g_242)) (ha_MQ_how (x_mq_ok g_242)) g_249 ?_
      refine x_bipush (v := 7) d_MD_compares_250 (by decide) ?_
      refine x_icmp_ne (tgt := 259) d_MD_compares_252 (by decide) (fun c_ => ?_) (fun c_ => ?_)
      · replace h := x_ie h c_
        refine x_iconst (v := 0) d_MD_compares_259 (by decide) ?_
        refine x_sbk [] (lv2 := []) rfl ?_; exact b_MD_compares_260 h
      · replace h := x_it h c_
        refine x_iconst (v := 1) d_MD_compares_255 (by decide) ?_
        refine x_goto (tgt := 260) d_MD_compares_256 (by decide) ?_
        refine x_sbk [] (lv2 := []) rfl ?_; exact b_MD_compares_260 h
    · replace h := x_ie h c_
      refine x_iload d_MD_compares_202 rfl ?_
      refine x_if_ne (tgt := 226) d_MD_compares_204 (by decide) (fun c_ => ?_) (fun c_ => ?_)
      · replace h := x_ie h c_
        refine x_sbk [0, 1, 2, 3, 5] (lv2 := [(0, .ref 387), (1, .int l1), (3, .int l3), (4, .int l4), (6, .int l6)]) rfl ?_; exact b_MD_compares_226 hK195 h
      · replace h := x_it h c_
        refine x_aload_n d_MD_compares_207 rfl rfl ?_
        refine x_gR d_MD_compares_208 (f_MD_46 rfl) sh_MD hp_MD rfl ?_
        obtain ⟨g_208, h⟩ := x_gd h
        refine x_gCN d_MD_compares_211 (f_MD_238 rfl) (sh_MQ (x_mq_ok g_208)) (hp_MQ (x_mq_ok g_208)) rfl ?_
        refine x_bipush (v := 40) d_MD_compares_214 (by decide) ?_
        refine x_iload_n d_MD_compares_216 rfl rfl ?_
        refine x_imul d_MD_compares_217 ?_
        refine x_iload d_MD_compares_218 rfl ?_
        refine x_iadd d_MD_compares_220 ?_
        obtain ⟨g_221, h⟩ := x_gd h
        refine x_lI d_MD_compares_221 rfl (sa_MQ_list (x_mq_ok g_208)) (ha_MQ_list (x_mq_ok g_208)) g_221 ?_
        refine x_iload_n d_MD_compares_222 rfl rfl ?_
        refine x_icmp_ne (tgt := 230) d_MD_compares_223 (by decide) (fun c_ => ?_) (fun c_ => ?_)
        · replace h := x_ie h c_
          refine x_iconst (v := 0) d_MD_compares_230 (by decide) ?_
          refine x_sbk [0, 1, 2, 3, 5] (lv2 := [(0, .ref 387), (1, .int l1), (3, .int l3), (4, .int l4), (6, .int l6)]) rfl ?_; exact b_MD_compares_231 hK195 h
        · replace h := x_it h c_
          refine x_sbk [0, 1, 2, 3, 5] (lv2 := [(0, .ref 387), (1, .int l1), (3, .int l3), (4, .int l4), (6, .int l6)]) rfl ?_; exact b_MD_compares_226 hK195 h
def B_MD_compares_188   (s0 : Int32) (m : x_m) : Option (Int32 × x_m) := (if x_b1 s0 = true then some (s0, m) else none)
theorem b_MD_compares_188 {G : x_G} {ex : Bool} {r : Int32 × x_m}   {s0 : Int32} {m : x_m} (h : B_MD_compares_188 s0 m = some r) : x_W G M_MD_compares (x_rd 1) (x_Q G (x_rd 1) ex (x_pi r)) ex x_np (x_hp m) 0 0 [] [.int s0] 188 := by
  unfold B_MD_compares_188 at h
  obtain ⟨g_188, h⟩ := x_gd h
  cases h
  exact x_ri d_MD_compares_188 rfl (x_b1_ok g_188).1
def B_MD_compares_187    (m : x_m) : Option (Int32 × x_m) := B_MD_compares_188 0 m
theorem b_MD_compares_187 {G : x_G} {ex : Bool} {r : Int32 × x_m}    {m : x_m} (h : B_MD_compares_187 m = some r) : x_W G M_MD_compares (x_rd 1) (x_Q G (x_rd 1) ex (x_pi r)) ex x_np (x_hp m) 0 0 [] [] 187 := by
  unfold B_MD_compares_187 at h
  refine x_iconst (v := 0) d_MD_compares_187 (by decide) ?_
  exact b_MD_compares_188 h
def B_MD_compares_163   (s0 : Int32) (m : x_m) : Option (Int32 × x_m) := (if x_b1 s0 = true then some (s0, m) else none)
theorem b_MD_compares_163 {G : x_G} {ex : Bool} {r : Int32 × x_m}   {s0 : Int32} {m : x_m} (h : B_MD_compares_163 s0 m = some r) : x_W G M_MD_compares (x_rd 1) (x_Q G (x_rd 1) ex (x_pi r)) ex x_np (x_hp m) 0 0 [] [.int s0] 163 := by
  unfold B_MD_compares_163 at h
  obtain ⟨g_163, h⟩ := x_gd h
  cases h
  exact x_ri d_MD_compares_163 rfl (x_b1_ok g_163).1
def B_MD_compares_151   (s0 : Int32) (m : x_m) : Option (Int32 × x_m) := (if x_b1 s0 = true then some (s0, m) else none)
theorem b_MD_compares_151 {G : x_G} {ex : Bool} {r : Int32 × x_m}   {s0 : Int32} {m : x_m} (h : B_MD_compares_151 s0 m = some r) : x_W G M_MD_compares (x_rd 1) (x_Q G (x_rd 1) ex (x_pi r)) ex x_np (x_hp m) 0 0 [] [.int s0] 151 := by
  unfold B_MD_compares_151 at h
  obtain ⟨g_151, h⟩ := x_gd h
  cases h
  exact x_ri d_MD_compares_151 rfl (x_b1_ok g_151).1
def B_MD_compares_139   (s0 : Int32) (m : x_m) : Option (Int32 × x_m) := (if x_b1 s0 = true then some (s0, m) else none)
theorem b_MD_compares_139 {G : x_G} {ex : Bool} {r : Int32 × x_m}   {s0 : Int32} {m : x_m} (h : B_MD_compares_139 s0 m = some r) : x_W G M_MD_compares (x_rd 1) (x_Q G (x_rd 1) ex (x_pi r)) ex x_np (x_hp m) 0 0 [] [.int s0] 139 := by
  unfold B_MD_compares_139 at h
  obtain ⟨g_139, h⟩ := x_gd h
  cases h
  exact x_ri d_MD_compares_139 rfl (x_b1_ok g_139).1
def B_MD_compares_127   (s0 : Int32) (m : x_m) : Option (Int32 × x_m) := (if x_b1 s0 = true then some (s0, m) else none)
theorem b_MD_compares_127 {G : x_G} {ex : Bool} {r : Int32 × x_m}   {s0 : Int32} {m : x_m} (h : B_MD_compares_127 s0 m = some r) : x_W G M_MD_compares (x_rd 1) (x_Q G (x_rd 1) ex (x_pi r)) ex x_np (x_hp m) 0 0 [] [.int s0] 127 := by
  unfold B_MD_compares_127 at h
  obtain ⟨g_127, h⟩ := x_gd h
  cases h
  exact x_ri d_MD_compares_127 rfl (x_b1_ok g_127).1
def B_MD_compares_115   (s0 : Int32) (m : x_m) : Option (Int32 × x_m) := (if x_b1 s0 = true then some (s0, m) else none)
theorem b_MD_compares_115 {G : x_G} {ex : Bool} {r : Int32 × x_m}   {s0 : Int32} {m : x_m} (h : B_MD_compares_115 s0 m = some r) : x_W G M_MD_compares (x_rd 1) (x_Q G (x_rd 1) ex (x_pi r)) ex x_np (x_hp m) 0 0 [] [.int s0] 115 := by
  unfold B_MD_compares_115 at h
  obtain ⟨g_115, h⟩ := x_gd h
  cases h
  exact x_ri d_MD_compares_115 rfl (x_b1_ok g_115).1
def B_MD_compares_103   (s0 : Int32) (m : x_m) : Option (Int32 × x_m) := (if x_b1 s0 = true then some (s0, m) else none)
theorem b_MD_compares_103 {G : x_G} {ex : Bool} {r : Int32 × x_m}   {s0 : Int32} {m : x_m} (h : B_MD_compares_103 s0 m = some r) : x_W G M_MD_compares (x_rd 1) (x_Q G (x_rd 1) ex (x_pi r)) ex x_np (x_hp m) 0 0 [] [.int s0] 103 := by
  unfold B_MD_compares_103 at h
  obtain ⟨g_103, h⟩ := x_gd h
  cases h
  exact x_ri d_MD_compares_103 rfl (x_b1_ok g_103).1
def F_MD_compares  (a1 : Int32) (m : x_m) : Option (Int32 × x_m) := (if x_mq (m.2.2.1 387 21) = true then (if x_ix a1 60 = true then (if x_ix ((m.2.1 (m.2.2.1 387 21 + 9) a1.toNatClampNeg) / 4) 8 = true then ((F_MD_valueOf ((m.2.1 (m.2.2.1 387 21 + 9) a1.toNatClampNeg) / 4) ((m.2.1 (m.2.2.1 387 21 + 9) a1.toNatClampNeg) - (m.2.1 (m.2.2.1 387 21 + 9) a1.toNatClampNeg) / 4 * 4) (m.2.1 392 ((m.2.1 (m.2.2.1 387 21 + 9) a1.toNatClampNeg) / 4).toNatClampNeg) m).bind fun r25 => (if x_mq (r25.2.2.2.1 387 21) = true then (if x_ix a1 60 = true then (if x_mq (r25.2.2.2.1 387 21) = true then (if x_ix a1 60 = true then (if (r25.2.2.1 (r25.2.2.2.1 387 21 + 10) a1.toNatClampNeg) = 0 then (if r25.1 = (r25.2.2.1 (r25.2.2.2.1 387 21 + 11) a1.toNatClampNeg) then B_MD_compares_103 1 r25.2 else B_MD_compares_103 0 r25.2) else (if (r25.2.2.1 (r25.2.2.2.1 387 21 + 10) a1.toNatClampNeg) = 1 then (if r25.1 = (r25.2.2.1 (r25.2.2.2.1 387 21 + 11) a1.toNatClampNeg) then B_MD_compares_115 0 r25.2 else B_MD_compares_115 1 r25.2) else (if (r25.2.2.1 (r25.2.2.2.1 387 21 + 10) a1.toNatClampNeg) = 2 then (if (r25.2.2.1 (r25.2.2.2.1 387 21 + 11) a1.toNatClampNeg) ≤ r25.1 then B_MD_compares_127 0 r25.2 else B_MD_compares_127 1 r25.2) else (if (r25.2.2.1 (r25.2.2.2.1 387 21 + 10) a1.toNatClampNeg) = 3 then (if (r25.2.2.1 (r25.2.2.2.1 387 21 + 11) a1.toNatClampNeg) < r25.1 then B_MD_compares_139 0 r25.2 else B_MD_compares_139 1 r25.2) else (if (r25.2.2.1 (r25.2.2.2.1 387 21 + 10) a1.toNatClampNeg) = 4 then (if r25.1 ≤ (r25.2.2.1 (r25.2.2.2.1 387 21 + 11) a1.toNatClampNeg) then B_MD_compares_151 0 r25.2 else B_MD_compares_151 1 r25.2) else (if (r25.2.2.1 (r25.2.2.2.1 387 21 + 10) a1.toNatClampNeg) = 5 then (if r25.1 < (r25.2.2.1 (r25.2.2.2.1 387 21 + 11) a1.toNatClampNeg) then B_MD_compares_163 0 r25.2 else B_MD_compares_163 1 r25.2) else (if (r25.2.2.1 (r25.2.2.2.1 387 21 + 10) a1.toNatClampNeg) = 6 then (if r25.1 < (r25.2.2.1 (r25.2.2.2.1 387 21 + 11) a1.toNatClampNeg) then B_MD_compares_187 r25.2 else (if x_mq (r25.2.2.2.1 387 21) = true then (if x_ix a1 60 = true then (if (r25.2.2.1 (r25.2.2.2.1 387 21 + 12) a1.toNatClampNeg) < r25.1 then B_MD_compares_187 r25.2 else B_MD_compares_188 1 r25.2) else none) else none)) else B_MD_compares_195 x_fu a1 r25.1 (r25.2.2.1 (r25.2.2.2.1 387 21 + 11) a1.toNatClampNeg) 0 0 r25.2))))))) else none) else none) else none) else none)) else none) else none) else none)
theorem c_MD_compares {G : x_G} {ex : Bool} {r : Int32 × x_m}  {a1 : Int32} {m : x_m} (h : F_MD_compares a1 m = some r) : x_R G M_MD_compares (x_rd 1) ex [.ref 387, .int a1] x_np (x_hp m) (x_pi r) := by
  unfold F_MD_compares at h
  show x_W G M_MD_compares (x_rd 1) (x_Q G (x_rd 1) ex (x_pi r)) ex x_np (x_hp m) 0 0 [(0, .ref 387), (1, .int a1)] [] 0
  refine x_aload_n d_MD_compares_0 rfl rfl ?_
  refine x_gR d_MD_compares_1 (f_MD_46 rfl) sh_MD hp_MD rfl ?_
  obtain ⟨g_1, h⟩ := x_gd h
  refine x_gCN d_MD_compares_4 (f_MD_220 rfl) (sh_MQ (x_mq_ok g_1)) (hp_MQ (x_mq_ok g_1)) rfl ?_
  refine x_iload_n d_MD_compares_7 rfl rfl ?_
  obtain ⟨g_8, h⟩ := x_gd h
  refine x_lI d_MD_compares_8 rfl (sa_MQ_column (x_mq_ok g_1)) (ha_MQ_column (x_mq_ok g_1)) g_8 ?_
  refine x_istore_n (lv2 := [(0, .ref 387), (1, .int a1), (2, .int (m.2.1 (m.2.2.1 387 21 + 9) a1.toNatClampNeg))]) d_MD_compares_9 rfl (by decide) rfl ?_
  refine x_aload_n d_MD_compares_10 rfl rfl ?_
  refine x_iload_n d_MD_compares_11 rfl rfl ?_
  refine x_iconst (v := 4) d_MD_compares_12 (by decide) ?_
  refine x_idiv d_MD_compares_13 (by decide) ?_
  refine x_iload_n d_MD_compares_14 rfl rfl ?_
  refine x_iconst (v := 4) d_MD_compares_15 (by decide) ?_
  refine x_irem d_MD_compares_16 (by decide) ?_
  refine x_aload_n d_MD_compares_17 rfl rfl ?_
  refine x_gC d_MD_compares_18 (f_MD_34 rfl) sh_MD hp_MD rfl ?_
  refine x_iload_n d_MD_compares_21 rfl rfl ?_
  refine x_iconst (v := 4) d_MD_compares_22 (by decide) ?_
  refine x_idiv d_MD_compares_23 (by decide) ?_
  obtain ⟨g_24, h⟩ := x_gd h
  refine x_lI d_MD_compares_24 rfl sa_MD_picked ha_MD_picked g_24 ?_
  obtain ⟨r25, e25, h⟩ := x_bd h
  refine x_cVi (M2 := M_MD_valueOf) (As := [.int ((m.2.1 (m.2.2.1 387 21 + 9) a1.toNatClampNeg) / 4), .int ((m.2.1 (m.2.2.1 387 21 + 9) a1.toNatClampNeg) - (m.2.1 (m.2.2.1 387 21 + 9) a1.toNatClampNeg) / 4 * 4), .int (m.2.1 392 ((m.2.1 (m.2.2.1 387 21 + 9) a1.toNatClampNeg) / 4).toNatClampNeg)]) (st := []) d_MD_compares_25 w_1471 k_MD_valueOf (c_MD_valueOf e25) rfl sh_MD hp_MD rfl ⟨Nat.le_of_ble_eq_true rfl, Nat.le_of_ble_eq_true rfl⟩ (Nat.le_of_ble_eq_true rfl) (Nat.le_of_ble_eq_true rfl) rfl ?_
  refine x_istore_n (lv2 := [(0, .ref 387), (1, .int a1), (2, .int (m.2.1 (m.2.2.1 387 21 + 9) a1.toNatClampNeg)), (3, .int r25.1)]) d_MD_compares_28 rfl (by decide) rfl ?_
  refine x_aload_n d_MD_compares_29 rfl rfl ?_
  refine x_gR d_MD_compares_30 (f_MD_46 rfl) sh_MD hp_MD rfl ?_
  obtain ⟨g_30, h⟩ := x_gd h
  refine x_gCN d_MD_compares_33 (f_MD_226 rfl) (sh_MQ (x_mq_ok g_30)) (hp_MQ (x_mq_ok g_30)) rfl ?_
  refine x_iload_n d_MD_compares_36 rfl rfl ?_
  obtain ⟨g_37, h⟩ := x_gd h
  refine x_lI d_MD_compares_37 rfl (sa_MQ_first (x_mq_ok g_30)) (ha_MQ_first (x_mq_ok g_30)) g_37 ?_
  refine x_istore (lv2 := [(0, .ref 387), (1, .int a1), (2, .int (m.2.1 (m.2.2.1 387 21 + 9) a1.toNatClampNeg)), (3, .int r25.1), (4, .int (r25.2.2.1 (r25.2.2.2.1 387 21 + 11) a1.toNatClampNeg))]) d_MD_compares_38 (by decide) rfl ?_
  refine x_aload_n d_MD_compares_40 rfl rfl ?_
  refine x_gR d_MD_compares_41 (f_MD_46 rfl) sh_MD hp_MD rfl ?_
  obtain ⟨g_41, h⟩ := x_gd h
  refine x_gCN d_MD_compares_44 (f_MD_223 rfl) (sh_MQ (x_mq_ok g_41)) (hp_MQ (x_mq_ok g_41)) rfl ?_
  refine x_iload_n d_MD_compares_47 rfl rfl ?_
  obtain ⟨g_48, h⟩ := x_gd h
  refine x_lI d_MD_compares_48 rfl (sa_MQ_how (x_mq_ok g_41)) (ha_MQ_how (x_mq_ok g_41)) g_48 ?_
  by_cases c0_ : (r25.2.2.1 (r25.2.2.2.1 387 21 + 10) a1.toNatClampNeg) = 0
  · replace h := x_it h c0_
    refine x_tsI (tgt := 92) d_MD_compares_49 c0_ (by decide) (by decide) rfl (by decide) ?_
    refine x_iload_n d_MD_compares_92 rfl rfl ?_
    refine x_iload d_MD_compares_93 rfl ?_
    refine x_icmp_ne (tgt := 102) d_MD_compares_95 (by decide) (fun c_ => ?_) (fun c_ => ?_)
    · replace h := x_ie h c_
      refine x_iconst (v := 0) d_MD_compares_102 (by decide) ?_
      refine x_sbk [] (lv2 := []) rfl ?_; exact b_MD_compares_103 h
    · replace h := x_it h c_
      refine x_iconst (v := 1) d_MD_compares_98 (by decide) ?_
      refine x_goto (tgt := 103) d_MD_compares_99 (by decide) ?_
      refine x_sbk [] (lv2 := []) rfl ?_; exact b_MD_compares_103 h
  · replace h := x_ie h c0_
    by_cases c1_ : (r25.2.2.1 (r25.2.2.2.1 387 21 + 10) a1.toNatClampNeg) = 1
    · replace h := x_it h c1_
      refine x_tsI (tgt := 104) d_MD_compares_49 c1_ (by decide) (by decide) rfl (by decide) ?_
      refine x_iload_n d_MD_compares_104 rfl rfl ?_
      refine x_iload d_MD_compares_105 rfl ?_
      refine x_icmp_eq (tgt := 114) d_MD_compares_107 (by decide) (fun c_ => ?_) (fun c_ => ?_)
      · replace h := x_it h c_
        refine x_iconst (v := 0) d_MD_compares_114 (by decide) ?_
        refine x_sbk [] (lv2 := []) rfl ?_; exact b_MD_compares_115 h
      · replace h := x_ie h c_
        refine x_iconst (v := 1) d_MD_compares_110 (by decide) ?_
        refine x_goto (tgt := 115) d_MD_compares_111 (by decide) ?_
        refine x_sbk [] (lv2 := []) rfl ?_; exact b_MD_compares_115 h
    · replace h := x_ie h c1_
      by_cases c2_ : (r25.2.2.1 (r25.2.2.2.1 387 21 + 10) a1.toNatClampNeg) = 2
      · replace h := x_it h c2_
        refine x_tsI (tgt := 116) d_MD_compares_49 c2_ (by decide) (by decide) rfl (by decide) ?_
        refine x_iload_n d_MD_compares_116 rfl rfl ?_
        refine x_iload d_MD_compares_117 rfl ?_
        refine x_icmp_ge (tgt := 126) d_MD_compares_119 (by decide) (fun c_ => ?_) (fun c_ => ?_)
        · replace h := x_it h c_
          refine x_iconst (v := 0) d_MD_compares_126 (by decide) ?_
          refine x_sbk [] (lv2 := []) rfl ?_; exact b_MD_compares_127 h
        · replace h := x_ie h c_
          refine x_iconst (v := 1) d_MD_compares_122 (by decide) ?_
          refine x_goto (tgt := 127) d_MD_compares_123 (by decide) ?_
          refine x_sbk [] (lv2 := []) rfl ?_; exact b_MD_compares_127 h
      · replace h := x_ie h c2_
        by_cases c3_ : (r25.2.2.1 (r25.2.2.2.1 387 21 + 10) a1.toNatClampNeg) = 3
        · replace h := x_it h c3_
          refine x_tsI (tgt := 128) d_MD_compares_49 c3_ (by decide) (by decide) rfl (by decide) ?_
          refine x_iload_n d_MD_compares_128 rfl rfl ?_
          refine x_iload d_MD_compares_129 rfl ?_
          refine x_icmp_gt (tgt := 138) d_MD_compares_131 (by decide) (fun c_ => ?_) (fun c_ => ?_)
          · replace h := x_it h c_
            refine x_iconst (v := 0) d_MD_compares_138 (by decide) ?_
            refine x_sbk [] (lv2 := []) rfl ?_; exact b_MD_compares_139 h
          · replace h := x_ie h c_
            refine x_iconst (v := 1) d_MD_compares_134 (by decide) ?_
            refine x_goto (tgt := 139) d_MD_compares_135 (by decide) ?_
            refine x_sbk [] (lv2 := []) rfl ?_; exact b_MD_compares_139 h
        · replace h := x_ie h c3_
          by_cases c4_ : (r25.2.2.1 (r25.2.2.2.1 387 21 + 10) a1.toNatClampNeg) = 4
          · replace h := x_it h c4_
            refine x_tsI (tgt := 140) d_MD_compares_49 c4_ (by decide) (by decide) rfl (by decide) ?_
            refine x_iload_n d_MD_compares_140 rfl rfl ?_
            refine x_iload d_MD_compares_141 rfl ?_
            refine x_icmp_le (tgt := 150) d_MD_compares_143 (by decide) (fun c_ => ?_) (fun c_ => ?_)
            · replace h := x_it h c_
              refine x_iconst (v := 0) d_MD_compares_150 (by decide) ?_
              refine x_sbk [] (lv2 := []) rfl ?_; exact b_MD_compares_151 h
            · replace h := x_ie h c_
              refine x_iconst (v := 1) d_MD_compares_146 (by decide) ?_
              refine x_goto (tgt := 151) d_MD_compares_147 (by decide) ?_
              refine x_sbk [] (lv2 := []) rfl ?_; exact b_MD_compares_151 h
          · replace h := x_ie h c4_
            by_cases c5_ : (r25.2.2.1 (r25.2.2.2.1 387 21 + 10) a1.toNatClampNeg) = 5
            · replace h := x_it h c5_
              refine x_tsI (tgt := 152) d_MD_compares_49 c5_ (by decide) (by decide) rfl (by decide) ?_
              refine x_iload_n d_MD_compares_152 rfl rfl ?_
              refine x_iload d_MD_compares_153 rfl ?_
              refine x_icmp_lt (tgt := 162) d_MD_compares_155 (by decide) (fun c_ => ?_) (fun c_ => ?_)
              · replace h := x_it h c_
                refine x_iconst (v := 0) d_MD_compares_162 (by decide) ?_
                refine x_sbk [] (lv2 := []) rfl ?_; exact b_MD_compares_163 h
              · replace h := x_ie h c_
                refine x_iconst (v := 1) d_MD_compares_158 (by decide) ?_
                refine x_goto (tgt := 163) d_MD_compares_159 (by decide) ?_
                refine x_sbk [] (lv2 := []) rfl ?_; exact b_MD_compares_163 h
            · replace h := x_ie h c5_
              by_cases c6_ : (r25.2.2.1 (r25.2.2.2.1 387 21 + 10) a1.toNatClampNeg) = 6
              · replace h := x_it h c6_
                refine x_tsI (tgt := 164) d_MD_compares_49 c6_ (by decide) (by decide) rfl (by decide) ?_
                refine x_iload_n d_MD_compares_164 rfl rfl ?_
                refine x_iload d_MD_compares_165 rfl ?_
                refine x_icmp_lt (tgt := 187) d_MD_compares_167 (by decide) (fun c_ => ?_) (fun c_ => ?_)
                · replace h := x_it h c_
                  refine x_sbk [] (lv2 := []) rfl ?_; exact b_MD_compares_187 h
                · replace h := x_ie h c_
                  refine x_iload_n d_MD_compares_170 rfl rfl ?_
                  refine x_aload_n d_MD_compares_171 rfl rfl ?_
                  refine x_gR d_MD_compares_172 (f_MD_46 rfl) sh_MD hp_MD rfl ?_
                  obtain ⟨g_172, h⟩ := x_gd h
                  refine x_gCN d_MD_compares_175 (f_MD_235 rfl) (sh_MQ (x_mq_ok g_172)) (hp_MQ (x_mq_ok g_172)) rfl ?_
                  refine x_iload_n d_MD_compares_178 rfl rfl ?_
                  obtain ⟨g_179, h⟩ := x_gd h
                  refine x_lI d_MD_compares_179 rfl (sa_MQ_second (x_mq_ok g_172)) (ha_MQ_second (x_mq_ok g_172)) g_179 ?_
                  refine x_icmp_gt (tgt := 187) d_MD_compares_180 (by decide) (fun c_ => ?_) (fun c_ => ?_)
                  · replace h := x_it h c_
                    refine x_sbk [] (lv2 := []) rfl ?_; exact b_MD_compares_187 h
                  · replace h := x_ie h c_
                    refine x_iconst (v := 1) d_MD_compares_183 (by decide) ?_
                    refine x_goto (tgt := 188) d_MD_compares_184 (by decide) ?_
                    refine x_sbk [] (lv2 := []) rfl ?_; exact b_MD_compares_188 h
              · replace h := x_ie h c6_
                refine x_tsO (tgt := 189) d_MD_compares_49 (x_tsd (n := 7) (by decide) (fun j hj => match j, hj with | 0, _ => fun e_ => c0_ (e_.trans (by decide)) | 1, _ => fun e_ => c1_ (e_.trans (by decide)) | 2, _ => fun e_ => c2_ (e_.trans (by decide)) | 3, _ => fun e_ => c3_ (e_.trans (by decide)) | 4, _ => fun e_ => c4_ (e_.trans (by decide)) | 5, _ => fun e_ => c5_ (e_.trans (by decide)) | 6, _ => fun e_ => c6_ (e_.trans (by decide)) | _ + 7, hz => absurd hz (by omega))) (by decide) ?_
                refine x_iconst (v := 0) d_MD_compares_189 (by decide) ?_
                refine x_istore (lv2 := [(0, .ref 387), (1, .int a1), (2, .int (m.2.1 (m.2.2.1 387 21 + 9) a1.toNatClampNeg)), (3, .int r25.1), (4, .int (r25.2.2.1 (r25.2.2.2.1 387 21 + 11) a1.toNatClampNeg)), (5, .int 0)]) d_MD_compares_190 (by decide) rfl ?_
                refine x_iconst (v := 0) d_MD_compares_192 (by decide) ?_
                refine x_istore (lv2 := [(0, .ref 387), (1, .int a1), (2, .int (m.2.1 (m.2.2.1 387 21 + 9) a1.toNatClampNeg)), (3, .int r25.1), (4, .int (r25.2.2.1 (r25.2.2.2.1 387 21 + 11) a1.toNatClampNeg)), (5, .int 0), (6, .int 0)]) d_MD_compares_193 (by decide) rfl ?_
                refine x_sbk [0, 1, 3, 4, 5, 6] (lv2 := [(0, .ref 387), (1, .int a1), (3, .int r25.1), (4, .int (r25.2.2.1 (r25.2.2.2.1 387 21 + 11) a1.toNatClampNeg)), (5, .int 0), (6, .int 0)]) rfl ?_; exact b_MD_compares_195 _ _ _ _ _ _ _ h
def B_MD_holds_201   (s0 : Int32) (m : x_m) : Option (Int32 × x_m) := (if x_b1 s0 = true then some (s0, m) else none)
theorem b_MD_holds_201 {G : x_G} {ex : Bool} {r : Int32 × x_m}   {s0 : Int32} {m : x_m} (h : B_MD_holds_201 s0 m = some r) : x_W G M_MD_holds (x_rd 2) (x_Q G (x_rd 2) ex (x_pi r)) ex x_np (x_hp m) 0 0 [] [.int s0] 201 := by
  unfold B_MD_holds_201 at h
  obtain ⟨g_201, h⟩ := x_gd h
  cases h
  exact x_ri d_MD_holds_201 rfl (x_b1_ok g_201).1
def B_MD_holds_196    (m : x_m) : Option (Int32 × x_m) := B_MD_holds_201 1 m
theorem b_MD_holds_196 {G : x_G} {ex : Bool} {r : Int32 × x_m}    {m : x_m} (h : B_MD_holds_196 m = some r) : x_W G M_MD_holds (x_rd 2) (x_Q G (x_rd 2) ex (x_pi r)) ex x_np (x_hp m) 0 0 [] [] 196 := by
  unfold B_MD_holds_196 at h
  refine x_iconst (v := 1) d_MD_holds_196 (by decide) ?_
  refine x_goto (tgt := 201) d_MD_holds_197 (by decide) ?_
  exact b_MD_holds_201 h
def B_MD_holds_177  (K29 : Int32 → Int32 → x_m → Option (Int32 × x_m)) (l1 : Int32) (l2 : Int32) (m : x_m) : Option (Int32 × x_m) := K29 l1 (l2 + 1) m
theorem b_MD_holds_177 {G : x_G} {ex : Bool} {r : Int32 × x_m}  {K29 : Int32 → Int32 → x_m → Option (Int32 × x_m)} (hK29 : ∀ (l1 : Int32) (l2 : Int32) (m : x_m), K29 l1 l2 m = some r → x_W G M_MD_holds (x_rd 2) (x_Q G (x_rd 2) ex (x_pi r)) ex x_np (x_hp m) 0 0 [(0, .ref 387), (1, .int l1), (2, .int l2)] [] 29) {l1 : Int32} {l2 : Int32} {m : x_m} (h : B_MD_holds_177 K29 l1 l2 m = some r) : x_W G M_MD_holds (x_rd 2) (x_Q G (x_rd 2) ex (x_pi r)) ex x_np (x_hp m) 0 0 [(0, .ref 387), (1, .int l1), (2, .int l2)] [] 177 := by
  unfold B_MD_holds_177 at h
  refine x_iinc (v := l2 + 1) (lv2 := [(0, .ref 387), (1, .int l1), (2, .int (l2 + 1))]) d_MD_holds_177 rfl rfl (by decide) rfl ?_
  refine x_goto (tgt := 29) d_MD_holds_180 (by decide) ?_
  exact hK29 _ _ _ h
def B_MD_holds_173  (K29 : Int32 → Int32 → x_m → Option (Int32 × x_m)) (l1 : Int32) (l2 : Int32) (s0 : Int32) (s1 : Int32) (m : x_m) : Option (Int32 × x_m) := (if x_ix s1 64 = true then B_MD_holds_177 K29 (l1 + (-1)) l2 (x_wA m 423 s1.toNatClampNeg (vp_nar .boolean s0)) else none)
theorem b_MD_holds_173 {G : x_G} {ex : Bool} {r : Int32 × x_m}  {K29 : Int32 → Int32 → x_m → Option (Int32 × x_m)} (hK29 : ∀ (l1 : Int32) (l2 : Int32) (m : x_m), K29 l1 l2 m = some r → x_W G M_MD_holds (x_rd 2) (x_Q G (x_rd 2) ex (x_pi r)) ex x_np (x_hp m) 0 0 [(0, .ref 387), (1, .int l1), (2, .int l2)] [] 29) {l1 : Int32} {l2 : Int32} {s0 : Int32} {s1 : Int32} {m : x_m} (h : B_MD_holds_173 K29 l1 l2 s0 s1 m = some r) : x_W G M_MD_holds (x_rd 2) (x_Q G (x_rd 2) ex (x_pi r)) ex x_np (x_hp m) 0 0 [(0, .ref 387), (1, .int l1), (2, .int l2)] [.int s0, .int s1, .ref 423] 173 := by
  unfold B_MD_holds_173 at h
  obtain ⟨g_173, h⟩ := x_gd h
  refine x_sZ d_MD_holds_173 rfl sa_MD_pile ha_MD_pile g_173 ?_
  refine x_iinc (v := l1 + (-1)) (lv2 := [(0, .ref 387), (1, .int (l1 + (-1))), (2, .int l2)]) d_MD_holds_174 rfl rfl (by decide) rfl ?_
  exact b_MD_holds_177 hK29 h
def B_MD_holds_168  (K29 : Int32 → Int32 → x_m → Option (Int32 × x_m)) (l1 : Int32) (l2 : Int32) (s0 : Int32) (m : x_m) : Option (Int32 × x_m) := B_MD_holds_173 K29 l1 l2 1 s0 m
theorem b_MD_holds_168 {G : x_G} {ex : Bool} {r : Int32 × x_m}  {K29 : Int32 → Int32 → x_m → Option (Int32 × x_m)} (hK29 : ∀ (l1 : Int32) (l2 : Int32) (m : x_m), K29 l1 l2 m = some r → x_W G M_MD_holds (x_rd 2) (x_Q G (x_rd 2) ex (x_pi r)) ex x_np (x_hp m) 0 0 [(0, .ref 387), (1, .int l1), (2, .int l2)] [] 29) {l1 : Int32} {l2 : Int32} {s0 : Int32} {m : x_m} (h : B_MD_holds_168 K29 l1 l2 s0 m = some r) : x_W G M_MD_holds (x_rd 2) (x_Q G (x_rd 2) ex (x_pi r)) ex x_np (x_hp m) 0 0 [(0, .ref 387), (1, .int l1), (2, .int l2)] [.int s0, .ref 423] 168 := by
  unfold B_MD_holds_168 at h
  refine x_iconst (v := 1) d_MD_holds_168 (by decide) ?_
  refine x_goto (tgt := 173) d_MD_holds_169 (by decide) ?_
  exact b_MD_holds_173 hK29 h
def B_MD_holds_142  (K29 : Int32 → Int32 → x_m → Option (Int32 × x_m)) (l1 : Int32) (l2 : Int32) (s0 : Int32) (m : x_m) : Option (Int32 × x_m) := B_MD_holds_173 K29 l1 l2 0 s0 m
theorem b_MD_holds_142 {G : x_G} {ex : Bool} {r : Int32 × x_m}  {K29 : Int32 → Int32 → x_m → Option (Int32 × x_m)} (hK29 : ∀ (l1 : Int32) (l2 : Int32) (m : x_m), K29 l1 l2 m = some r → x_W G M_MD_holds (x_rd 2) (x_Q G (x_rd 2) ex (x_pi r)) ex x_np (x_hp m) 0 0 [(0, .ref 387), (1, .int l1), (2, .int l2)] [] 29) {l1 : Int32} {l2 : Int32} {s0 : Int32} {m : x_m} (h : B_MD_holds_142 K29 l1 l2 s0 m = some r) : x_W G M_MD_holds (x_rd 2) (x_Q G (x_rd 2) ex (x_pi r)) ex x_np (x_hp m) 0 0 [(0, .ref 387), (1, .int l1), (2, .int l2)] [.int s0, .ref 423] 142 := by
  unfold B_MD_holds_142 at h
  refine x_iconst (v := 0) d_MD_holds_142 (by decide) ?_
  refine x_goto (tgt := 173) d_MD_holds_143 (by decide) ?_
  exact b_MD_holds_173 hK29 h
def B_MD_holds_99  (K29 : Int32 → Int32 → x_m → Option (Int32 × x_m)) (l1 : Int32) (l2 : Int32) (s0 : Int32) (s1 : Int32) (m : x_m) : Option (Int32 × x_m) := (if x_ix s1 64 = true then B_MD_holds_177 K29 l1 l2 (x_wA m 423 s1.toNatClampNeg (vp_nar .boolean s0)) else none)
theorem b_MD_holds_99 {G : x_G} {ex : Bool} {r : Int32 × x_m}  {K29 : Int32 → Int32 → x_m → Option (Int32 × x_m)} (hK29 : ∀ (l1 : Int32) (l2 : Int32) (m : x_m), K29 l1 l2 m = some r → x_W G M_MD_holds (x_rd 2) (x_Q G (x_rd 2) ex (x_pi r)) ex x_np (x_hp m) 0 0 [(0, .ref 387), (1, .int l1), (2, .int l2)] [] 29) {l1 : Int32} {l2 : Int32} {s0 : Int32} {s1 : Int32} {m : x_m} (h : B_MD_holds_99 K29 l1 l2 s0 s1 m = some r) : x_W G M_MD_holds (x_rd 2) (x_Q G (x_rd 2) ex (x_pi r)) ex x_np (x_hp m) 0 0 [(0, .ref 387), (1, .int l1), (2, .int l2)] [.int s0, .int s1, .ref 423] 99 := by
  unfold B_MD_holds_99 at h
  obtain ⟨g_99, h⟩ := x_gd h
  refine x_sZ d_MD_holds_99 rfl sa_MD_pile ha_MD_pile g_99 ?_
  refine x_goto (tgt := 177) d_MD_holds_100 (by decide) ?_
  exact b_MD_holds_177 hK29 h
def B_MD_holds_29   : Nat → Int32 → Int32 → x_m → Option (Int32 × x_m)
  | 0, _, _, _ => none
  | f_ + 1, l1, l2, m => (if x_mq (m.2.2.1 387 21) = true then (if (m.1 (m.2.2.1 387 21) 11) ≤ l2 then (if l1 = 0 then B_MD_holds_196 m else (if x_ix 0 64 = true then (if (m.2.1 423 (0 : Int32).toNatClampNeg) = 0 then B_MD_holds_201 0 m else B_MD_holds_196 m) else none)) else (if x_mq (m.2.2.1 387 21) = true then (if x_ix l2 2600 = true then (if (m.2.1 (m.2.2.1 387 21 + 8) l2.toNatClampNeg) < 0 then (if (m.2.1 (m.2.2.1 387 21 + 8) l2.toNatClampNeg) = ((-1)) then (if x_ix (l1 - 1) 64 = true then (if (m.2.1 423 (l1 - 1).toNatClampNeg) = 0 then B_MD_holds_99 (B_MD_holds_29 f_) l1 l2 1 (l1 - 1) m else B_MD_holds_99 (B_MD_holds_29 f_) l1 l2 0 (l1 - 1) m) else none) else (if (m.2.1 (m.2.2.1 387 21 + 8) l2.toNatClampNeg) = ((-2)) then (if x_ix (l1 - 2) 64 = true then (if (m.2.1 423 (l1 - 2).toNatClampNeg) = 0 then B_MD_holds_142 (B_MD_holds_29 f_) l1 l2 (l1 - 2) m else (if x_ix (l1 - 1) 64 = true then (if (m.2.1 423 (l1 - 1).toNatClampNeg) = 0 then B_MD_holds_142 (B_MD_holds_29 f_) l1 l2 (l1 - 2) m else B_MD_holds_173 (B_MD_holds_29 f_) l1 l2 1 (l1 - 2) m) else none)) else none) else (if x_ix (l1 - 2) 64 = true then (if (m.2.1 423 (l1 - 2).toNatClampNeg) = 0 then (if x_ix (l1 - 1) 64 = true then (if (m.2.1 423 (l1 - 1).toNatClampNeg) = 0 then B_MD_holds_173 (B_MD_holds_29 f_) l1 l2 0 (l1 - 2) m else B_MD_holds_168 (B_MD_holds_29 f_) l1 l2 (l1 - 2) m) else none) else B_MD_holds_168 (B_MD_holds_29 f_) l1 l2 (l1 - 2) m) else none))) else ((F_MD_compares (m.2.1 (m.2.2.1 387 21 + 8) l2.toNatClampNeg) m).bind fun r61 => (if x_ix l1 64 = true then B_MD_holds_177 (B_MD_holds_29 f_) (l1 + 1) l2 (x_wA r61.2 423 l1.toNatClampNeg (vp_nar .boolean r61.1)) else none))) else none) else none)) else none)
theorem b_MD_holds_29 {G : x_G} {ex : Bool} {r : Int32 × x_m}   : ∀ (f_ : Nat) (l1 : Int32) (l2 : Int32) (m : x_m), B_MD_holds_29 f_ l1 l2 m = some r → x_W G M_MD_holds (x_rd 2) (x_Q G (x_rd 2) ex (x_pi r)) ex x_np (x_hp m) 0 0 [(0, .ref 387), (1, .int l1), (2, .int l2)] [] 29 := by
  intro f_
  induction f_ with
  | zero => intro l1 l2 m h; exact nomatch h
  | succ f_ ih =>
    intro l1 l2 m h
    rw [B_MD_holds_29] at h
    have hK29 := ih
    refine x_iload_n d_MD_holds_29 rfl rfl ?_
    refine x_aload_n d_MD_holds_30 rfl rfl ?_
    refine x_gR d_MD_holds_31 (f_MD_46 rfl) sh_MD hp_MD rfl ?_
    obtain ⟨g_31, h⟩ := x_gd h
    refine x_gIN d_MD_holds_34 (f_MD_196 rfl) (sh_MQ (x_mq_ok g_31)) (hp_MQ (x_mq_ok g_31)) rfl ?_
    refine x_icmp_ge (tgt := 183) d_MD_holds_37 (by decide) (fun c_ => ?_) (fun c_ => ?_)
    · replace h := x_it h c_
      refine x_iload_n d_MD_holds_183 rfl rfl ?_
      refine x_if_eq (tgt := 196) d_MD_holds_184 (by decide) (fun c_ => ?_) (fun c_ => ?_)
      · replace h := x_it h c_
        refine x_sbk [] (lv2 := []) rfl ?_; exact b_MD_holds_196 h
      · replace h := x_ie h c_
        refine x_aload_n d_MD_holds_187 rfl rfl ?_
        refine x_gC d_MD_holds_188 (f_MD_53 rfl) sh_MD hp_MD rfl ?_
        refine x_iconst (v := 0) d_MD_holds_191 (by decide) ?_
        obtain ⟨g_192, h⟩ := x_gd h
        refine x_lZ d_MD_holds_192 rfl sa_MD_pile ha_MD_pile g_192 ?_
        refine x_if_eq (tgt := 200) d_MD_holds_193 (by decide) (fun c_ => ?_) (fun c_ => ?_)
        · replace h := x_it h c_
          refine x_iconst (v := 0) d_MD_holds_200 (by decide) ?_
          refine x_sbk [] (lv2 := []) rfl ?_; exact b_MD_holds_201 h
        · replace h := x_ie h c_
          refine x_sbk [] (lv2 := []) rfl ?_; exact b_MD_holds_196 h
    · replace h := x_ie h c_
      refine x_aload_n d_MD_holds_40 rfl rfl ?_
      refine x_gR d_MD_holds_41 (f_MD_46 rfl) sh_MD hp_MD rfl ?_
      obtain ⟨g_41, h⟩ := x_gd h
      refine x_gCN d_MD_holds_44 (f_MD_194 rfl) (sh_MQ (x_mq_ok g_41)) (hp_MQ (x_mq_ok g_41)) rfl ?_
      refine x_iload_n d_MD_holds_47 rfl rfl ?_
      obtain ⟨g_48, h⟩ := x_gd h
      refine x_lI d_MD_holds_48 rfl (sa_MQ_sign (x_mq_ok g_41)) (ha_MQ_sign (x_mq_ok g_41)) g_48 ?_
      refine x_istore_n (lv2 := [(0, .ref 387), (1, .int l1), (2, .int l2), (3, .int (m.2.1 (m.2.2.1 387 21 + 8) l2.toNatClampNeg))]) d_MD_holds_49 rfl (by decide) rfl ?_
      refine x_iload_n d_MD_holds_50 rfl rfl ?_
      refine x_if_lt (tgt := 71) d_MD_holds_51 (by decide) (fun c_ => ?_) (fun c_ => ?_)
      · replace h := x_it h c_
        refine x_iload_n d_MD_holds_71 rfl rfl ?_
        refine x_iconst (v := (-1)) d_MD_holds_72 (by decide) ?_
        refine x_icmp_ne (tgt := 103) d_MD_holds_73 (by decide) (fun c_ => ?_) (fun c_ => ?_)
        · replace h := x_ie h c_
          refine x_aload_n d_MD_holds_103 rfl rfl ?_
          refine x_gC d_MD_holds_104 (f_MD_53 rfl) sh_MD hp_MD rfl ?_
          refine x_iload_n d_MD_holds_107 rfl rfl ?_
          refine x_iconst (v := 2) d_MD_holds_108 (by decide) ?_
          refine x_isub d_MD_holds_109 ?_
          refine x_iload_n d_MD_holds_110 rfl rfl ?_
          refine x_bipush (v := (-2)) d_MD_holds_111 (by decide) ?_
          refine x_icmp_ne (tgt := 146) d_MD_holds_113 (by decide) (fun c_ => ?_) (fun c_ => ?_)
          · replace h := x_ie h c_
            refine x_aload_n d_MD_holds_146 rfl rfl ?_
            refine x_gC d_MD_holds_147 (f_MD_53 rfl) sh_MD hp_MD rfl ?_
            refine x_iload_n d_MD_holds_150 rfl rfl ?_
            refine x_iconst (v := 2) d_MD_holds_151 (by decide) ?_
            refine x_isub d_MD_holds_152 ?_
            obtain ⟨g_153, h⟩ := x_gd h
            refine x_lZ d_MD_holds_153 rfl sa_MD_pile ha_MD_pile g_153 ?_
            refine x_if_ne (tgt := 168) d_MD_holds_154 (by decide) (fun c_ => ?_) (fun c_ => ?_)
            · replace h := x_ie h c_
              refine x_sbk [0, 1, 2] (lv2 := [(0, .ref 387), (1, .int l1), (2, .int l2)]) rfl ?_; exact b_MD_holds_168 hK29 h
            · replace h := x_it h c_
              refine x_aload_n d_MD_holds_157 rfl rfl ?_
              refine x_gC d_MD_holds_158 (f_MD_53 rfl) sh_MD hp_MD rfl ?_
              refine x_iload_n d_MD_holds_161 rfl rfl ?_
              refine x_iconst (v := 1) d_MD_holds_162 (by decide) ?_
              refine x_isub d_MD_holds_163 ?_
              obtain ⟨g_164, h⟩ := x_gd h
              refine x_lZ d_MD_holds_164 rfl sa_MD_pile ha_MD_pile g_164 ?_
              refine x_if_eq (tgt := 172) d_MD_holds_165 (by decide) (fun c_ => ?_) (fun c_ => ?_)
              · replace h := x_it h c_
                refine x_iconst (v := 0) d_MD_holds_172 (by decide) ?_
                refine x_sbk [0, 1, 2] (lv2 := [(0, .ref 387), (1, .int l1), (2, .int l2)]) rfl ?_; exact b_MD_holds_173 hK29 h
              · replace h := x_ie h c_
                refine x_sbk [0, 1, 2] (lv2 := [(0, .ref 387), (1, .int l1), (2, .int l2)]) rfl ?_; exact b_MD_holds_168 hK29 h
          · replace h := x_it h c_
            refine x_aload_n d_MD_holds_116 rfl rfl ?_
            refine x_gC d_MD_holds_117 (f_MD_53 rfl) sh_MD hp_MD rfl ?_
            refine x_iload_n d_MD_holds_120 rfl rfl ?_
            refine x_iconst (v := 2) d_MD_holds_121 (by decide) ?_
            refine x_isub d_MD_holds_122 ?_
            obtain ⟨g_123, h⟩ := x_gd h
            refine x_lZ d_MD_holds_123 rfl sa_MD_pile ha_MD_pile g_123 ?_
            refine x_if_eq (tgt := 142) d_MD_holds_124 (by decide) (fun c_ => ?_) (fun c_ => ?_)
            · replace h := x_it h c_
              refine x_sbk [0, 1, 2] (lv2 := [(0, .ref 387), (1, .int l1), (2, .int l2)]) rfl ?_; exact b_MD_holds_142 hK29 h
            · replace h := x_ie h c_
              refine x_aload_n d_MD_holds_127 rfl rfl ?_
              refine x_gC d_MD_holds_128 (f_MD_53 rfl) sh_MD hp_MD rfl ?_
              refine x_iload_n d_MD_holds_131 rfl rfl ?_
              refine x_iconst (v := 1) d_MD_holds_132 (by decide) ?_
              refine x_isub d_MD_holds_133 ?_
              obtain ⟨g_134, h⟩ := x_gd h
              refine x_lZ d_MD_holds_134 rfl sa_MD_pile ha_MD_pile g_134 ?_
              refine x_if_eq (tgt := 142) d_MD_holds_135 (by decide) (fun c_ => ?_) (fun c_ => ?_)
              · replace h := x_it h c_
                refine x_sbk [0, 1, 2] (lv2 := [(0, .ref 387), (1, .int l1), (2, .int l2)]) rfl ?_; exact b_MD_holds_142 hK29 h
              · replace h := x_ie h c_
                refine x_iconst (v := 1) d_MD_holds_138 (by decide) ?_
                refine x_goto (tgt := 173) d_MD_holds_139 (by decide) ?_
                refine x_sbk [0, 1, 2] (lv2 := [(0, .ref 387), (1, .int l1), (2, .int l2)]) rfl ?_; exact b_MD_holds_173 hK29 h
        · replace h := x_it h c_
          refine x_aload_n d_MD_holds_76 rfl rfl ?_
          refine x_gC d_MD_holds_77 (f_MD_53 rfl) sh_MD hp_MD rfl ?_
          refine x_iload_n d_MD_holds_80 rfl rfl ?_
          refine x_iconst (v := 1) d_MD_holds_81 (by decide) ?_
          refine x_isub d_MD_holds_82 ?_
          refine x_aload_n d_MD_holds_83 rfl rfl ?_
          refine x_gC d_MD_holds_84 (f_MD_53 rfl) sh_MD hp_MD rfl ?_
          refine x_iload_n d_MD_holds_87 rfl rfl ?_
          refine x_iconst (v := 1) d_MD_holds_88 (by decide) ?_
          refine x_isub d_MD_holds_89 ?_
          obtain ⟨g_90, h⟩ := x_gd h
          refine x_lZ d_MD_holds_90 rfl sa_MD_pile ha_MD_pile g_90 ?_
          refine x_if_ne (tgt := 98) d_MD_holds_91 (by decide) (fun c_ => ?_) (fun c_ => ?_)
          · replace h := x_ie h c_
            refine x_iconst (v := 0) d_MD_holds_98 (by decide) ?_
            refine x_sbk [0, 1, 2] (lv2 := [(0, .ref 387), (1, .int l1), (2, .int l2)]) rfl ?_; exact b_MD_holds_99 hK29 h
          · replace h := x_it h c_
            refine x_iconst (v := 1) d_MD_holds_94 (by decide) ?_
            refine x_goto (tgt := 99) d_MD_holds_95 (by decide) ?_
            refine x_sbk [0, 1, 2] (lv2 := [(0, .ref 387), (1, .int l1), (2, .int l2)]) rfl ?_; exact b_MD_holds_99 hK29 h
      · replace h := x_ie h c_
        refine x_aload_n d_MD_holds_54 rfl rfl ?_
        refine x_gC d_MD_holds_55 (f_MD_53 rfl) sh_MD hp_MD rfl ?_
        refine x_iload_n d_MD_holds_58 rfl rfl ?_
        refine x_aload_n d_MD_holds_59 rfl rfl ?_
        refine x_iload_n d_MD_holds_60 rfl rfl ?_
        obtain ⟨r61, e61, h⟩ := x_bd h
        refine x_cVi (M2 := M_MD_compares) (As := [.int (m.2.1 (m.2.2.1 387 21 + 8) l2.toNatClampNeg)]) (st := [.int l1, .ref 423]) d_MD_holds_61 w_1511 k_MD_compares (c_MD_compares e61) rfl sh_MD hp_MD rfl ⟨Nat.le_of_ble_eq_true rfl, Nat.le_of_ble_eq_true rfl⟩ (Nat.le_of_ble_eq_true rfl) (Nat.le_of_ble_eq_true rfl) rfl ?_
        obtain ⟨g_64, h⟩ := x_gd h
        refine x_sZ d_MD_holds_64 rfl sa_MD_pile ha_MD_pile g_64 ?_
        refine x_iinc (v := l1 + 1) (lv2 := [(0, .ref 387), (1, .int (l1 + 1)), (2, .int l2), (3, .int (m.2.1 (m.2.2.1 387 21 + 8) l2.toNatClampNeg))]) d_MD_holds_65 rfl rfl (by decide) rfl ?_
        refine x_goto (tgt := 177) d_MD_holds_68 (by decide) ?_
        refine x_sbk [0, 1, 2] (lv2 := [(0, .ref 387), (1, .int (l1 + 1)), (2, .int l2)]) rfl ?_; exact b_MD_holds_177 hK29 h
def B_MD_holds_13   (s0 : Int32) (m : x_m) : Option (Int32 × x_m) := (if ((x_wS m 387 1 s0).1 387 1) ≤ 0 then B_MD_holds_29 x_fu 0 0 (x_wS m 387 1 s0) else some (0, x_wS m 387 1 s0))
theorem b_MD_holds_13 {G : x_G} {ex : Bool} {r : Int32 × x_m}   {s0 : Int32} {m : x_m} (h : B_MD_holds_13 s0 m = some r) : x_W G M_MD_holds (x_rd 2) (x_Q G (x_rd 2) ex (x_pi r)) ex x_np (x_hp m) 0 0 [(0, .ref 387)] [.int s0, .ref 387] 13 := by
  unfold B_MD_holds_13 at h
  refine x_pI d_MD_holds_13 (f_MD_57 rfl) tb_MD rfl sh_MD hp_MD rfl ⟨rfl, rfl⟩ ?_
  refine x_aload_n d_MD_holds_16 rfl rfl ?_
  refine x_gI d_MD_holds_17 (f_MD_57 rfl) sh_MD hp_MD rfl ?_
  refine x_if_le (tgt := 25) d_MD_holds_20 (by decide) (fun c_ => ?_) (fun c_ => ?_)
  · replace h := x_it h c_
    refine x_iconst (v := 0) d_MD_holds_25 (by decide) ?_
    refine x_istore_n (lv2 := [(0, .ref 387), (1, .int 0)]) d_MD_holds_26 rfl (by decide) rfl ?_
    refine x_iconst (v := 0) d_MD_holds_27 (by decide) ?_
    refine x_istore_n (lv2 := [(0, .ref 387), (1, .int 0), (2, .int 0)]) d_MD_holds_28 rfl (by decide) rfl ?_
    exact b_MD_holds_29 _ _ _ _ h
  · replace h := x_ie h c_
    refine x_iconst (v := 0) d_MD_holds_23 (by decide) ?_
    cases h
    exact x_ri d_MD_holds_24 rfl rfl
def F_MD_holds   (m : x_m) : Option (Int32 × x_m) := (if (m.1 387 23) = 0 then B_MD_holds_13 1 m else B_MD_holds_13 0 m)
theorem c_MD_holds {G : x_G} {ex : Bool} {r : Int32 × x_m}   {m : x_m} (h : F_MD_holds m = some r) : x_R G M_MD_holds (x_rd 2) ex [.ref 387] x_np (x_hp m) (x_pi r) := by
  unfold F_MD_holds at h
  show x_W G M_MD_holds (x_rd 2) (x_Q G (x_rd 2) ex (x_pi r)) ex x_np (x_hp m) 0 0 [(0, .ref 387)] [] 0
  refine x_aload_n d_MD_holds_0 rfl rfl ?_
  refine x_aload_n d_MD_holds_1 rfl rfl ?_
  refine x_gI d_MD_holds_2 (f_MD_280 rfl) sh_MD hp_MD rfl ?_
  refine x_if_eq (tgt := 12) d_MD_holds_5 (by decide) (fun c_ => ?_) (fun c_ => ?_)
  · replace h := x_it h c_
    refine x_iconst (v := 1) d_MD_holds_12 (by decide) ?_
    exact b_MD_holds_13 h
  · replace h := x_ie h c_
    refine x_iconst (v := 0) d_MD_holds_8 (by decide) ?_
    refine x_goto (tgt := 13) d_MD_holds_9 (by decide) ?_
    exact b_MD_holds_13 h
