def M_MD_thrown : x_M := (⟨"QuestionReaderModel", "thrown", "()I"⟩, prog_14_method_2_code, 1, some (.int), [])
theorem d_MD_thrown_0 : decode M_MD_thrown.2.1 0 = .ok (.aload_n 0, 1) := by decide +kernel
theorem d_MD_thrown_1 : decode M_MD_thrown.2.1 1 = .ok (.getfield 57, 3) := by decide +kernel
theorem d_MD_thrown_4 : decode M_MD_thrown.2.1 4 = .ok (.ireturn, 1) := by decide +kernel
theorem k_MD_thrown : x_kV M_MD_thrown "QuestionReaderModel" 0 := ⟨⟨by decide, Or.inl ⟨w_1223, rfl⟩⟩, w_1221, w_1222, ⟨by decide, by decide⟩, by decide +kernel⟩
def M_MD_lay : x_M := (⟨"QuestionReaderModel", "lay", "(I)V"⟩, prog_14_method_3_code, 2, none, [])
theorem d_MD_lay_0 : decode M_MD_lay.2.1 0 = .ok (.aload_n 0, 1) := by decide +kernel
theorem d_MD_lay_1 : decode M_MD_lay.2.1 1 = .ok (.getfield 16, 3) := by decide +kernel
theorem d_MD_lay_4 : decode M_MD_lay.2.1 4 = .ok (.aload_n 0, 1) := by decide +kernel
theorem d_MD_lay_5 : decode M_MD_lay.2.1 5 = .ok (.getfield 60, 3) := by decide +kernel
theorem d_MD_lay_8 : decode M_MD_lay.2.1 8 = .ok (.iload_n 1, 1) := by decide +kernel
theorem d_MD_lay_9 : decode M_MD_lay.2.1 9 = .ok (.bipush 24, 2) := by decide +kernel
theorem d_MD_lay_11 : decode M_MD_lay.2.1 11 = .ok (.ishr, 1) := by decide +kernel
theorem d_MD_lay_12 : decode M_MD_lay.2.1 12 = .ok (.i2b, 1) := by decide +kernel
theorem d_MD_lay_13 : decode M_MD_lay.2.1 13 = .ok (.bastore, 1) := by decide +kernel
theorem d_MD_lay_14 : decode M_MD_lay.2.1 14 = .ok (.aload_n 0, 1) := by decide +kernel
theorem d_MD_lay_15 : decode M_MD_lay.2.1 15 = .ok (.getfield 16, 3) := by decide +kernel
theorem d_MD_lay_18 : decode M_MD_lay.2.1 18 = .ok (.aload_n 0, 1) := by decide +kernel
theorem d_MD_lay_19 : decode M_MD_lay.2.1 19 = .ok (.getfield 60, 3) := by decide +kernel
theorem d_MD_lay_22 : decode M_MD_lay.2.1 22 = .ok (.iconst 1, 1) := by decide +kernel
theorem d_MD_lay_23 : decode M_MD_lay.2.1 23 = .ok (.iadd, 1) := by decide +kernel
theorem d_MD_lay_24 : decode M_MD_lay.2.1 24 = .ok (.iload_n 1, 1) := by decide +kernel
theorem d_MD_lay_25 : decode M_MD_lay.2.1 25 = .ok (.bipush 16, 2) := by decide +kernel
theorem d_MD_lay_27 : decode M_MD_lay.2.1 27 = .ok (.ishr, 1) := by decide +kernel
theorem d_MD_lay_28 : decode M_MD_lay.2.1 28 = .ok (.i2b, 1) := by decide +kernel
theorem d_MD_lay_29 : decode M_MD_lay.2.1 29 = .ok (.bastore, 1) := by decide +kernel
theorem d_MD_lay_30 : decode M_MD_lay.2.1 30 = .ok (.aload_n 0, 1) := by decide +kernel
theorem d_MD_lay_31 : decode M_MD_lay.2.1 31 = .ok (.getfield 16, 3) := by decide +kernel
theorem d_MD_lay_34 : decode M_MD_lay.2.1 34 = .ok (.aload_n 0, 1) := by decide +kernel
theorem d_MD_lay_35 : decode M_MD_lay.2.1 35 = .ok (.getfield 60, 3) := by decide +kernel
theorem d_MD_lay_38 : decode M_MD_lay.2.1 38 = .ok (.iconst 2, 1) := by decide +kernel
theorem d_MD_lay_39 : decode M_MD_lay.2.1 39 = .ok (.iadd, 1) := by decide +kernel
theorem d_MD_lay_40 : decode M_MD_lay.2.1 40 = .ok (.iload_n 1, 1) := by decide +kernel
theorem d_MD_lay_41 : decode M_MD_lay.2.1 41 = .ok (.bipush 8, 2) := by decide +kernel
theorem d_MD_lay_43 : decode M_MD_lay.2.1 43 = .ok (.ishr, 1) := by decide +kernel
theorem d_MD_lay_44 : decode M_MD_lay.2.1 44 = .ok (.i2b, 1) := by decide +kernel
theorem d_MD_lay_45 : decode M_MD_lay.2.1 45 = .ok (.bastore, 1) := by decide +kernel
theorem d_MD_lay_46 : decode M_MD_lay.2.1 46 = .ok (.aload_n 0, 1) := by decide +kernel
theorem d_MD_lay_47 : decode M_MD_lay.2.1 47 = .ok (.getfield 16, 3) := by decide +kernel
theorem d_MD_lay_50 : decode M_MD_lay.2.1 50 = .ok (.aload_n 0, 1) := by decide +kernel
theorem d_MD_lay_51 : decode M_MD_lay.2.1 51 = .ok (.getfield 60, 3) := by decide +kernel
theorem d_MD_lay_54 : decode M_MD_lay.2.1 54 = .ok (.iconst 3, 1) := by decide +kernel
theorem d_MD_lay_55 : decode M_MD_lay.2.1 55 = .ok (.iadd, 1) := by decide +kernel
theorem d_MD_lay_56 : decode M_MD_lay.2.1 56 = .ok (.iload_n 1, 1) := by decide +kernel
theorem d_MD_lay_57 : decode M_MD_lay.2.1 57 = .ok (.i2b, 1) := by decide +kernel
theorem d_MD_lay_58 : decode M_MD_lay.2.1 58 = .ok (.bastore, 1) := by decide +kernel
theorem d_MD_lay_59 : decode M_MD_lay.2.1 59 = .ok (.aload_n 0, 1) := by decide +kernel
theorem d_MD_lay_60 : decode M_MD_lay.2.1 60 = .ok (.dup, 1) := by decide +kernel
theorem d_MD_lay_61 : decode M_MD_lay.2.1 61 = .ok (.getfield 60, 3) := by decide +kernel
theorem d_MD_lay_64 : decode M_MD_lay.2.1 64 = .ok (.iconst 4, 1) := by decide +kernel
theorem d_MD_lay_65 : decode M_MD_lay.2.1 65 = .ok (.iadd, 1) := by decide +kernel
theorem d_MD_lay_66 : decode M_MD_lay.2.1 66 = .ok (.putfield 60, 3) := by decide +kernel
theorem d_MD_lay_69 : decode M_MD_lay.2.1 69 = .ok (.return_, 1) := by decide +kernel
theorem k_MD_lay : x_kV M_MD_lay "QuestionReaderModel" 1 := ⟨⟨by decide, Or.inl ⟨w_1231, rfl⟩⟩, w_1230, ws_36, ⟨by decide, by decide⟩, by decide +kernel⟩
def M_MD_feed : x_M := (⟨"QuestionReaderModel", "feed", "(IIIII)I"⟩, prog_14_method_4_code, 6, some (.int), [])
theorem d_MD_feed_0 : decode M_MD_feed.2.1 0 = .ok (.aload_n 0, 1) := by decide +kernel
theorem d_MD_feed_1 : decode M_MD_feed.2.1 1 = .ok (.aload_n 0, 1) := by decide +kernel
theorem d_MD_feed_2 : decode M_MD_feed.2.1 2 = .ok (.getfield 60, 3) := by decide +kernel
theorem d_MD_feed_5 : decode M_MD_feed.2.1 5 = .ok (.bipush 20, 2) := by decide +kernel
theorem d_MD_feed_7 : decode M_MD_feed.2.1 7 = .ok (.iadd, 1) := by decide +kernel
theorem d_MD_feed_8 : decode M_MD_feed.2.1 8 = .ok (.ldc 15, 2) := by decide +kernel
theorem d_MD_feed_10 : decode M_MD_feed.2.1 10 = .ok (.if_icmp .le 7, 3) := by decide +kernel
theorem d_MD_feed_13 : decode M_MD_feed.2.1 13 = .ok (.iconst 1, 1) := by decide +kernel
theorem d_MD_feed_14 : decode M_MD_feed.2.1 14 = .ok (.goto 4, 3) := by decide +kernel
theorem d_MD_feed_17 : decode M_MD_feed.2.1 17 = .ok (.iconst 0, 1) := by decide +kernel
theorem d_MD_feed_18 : decode M_MD_feed.2.1 18 = .ok (.putfield 57, 3) := by decide +kernel
theorem d_MD_feed_21 : decode M_MD_feed.2.1 21 = .ok (.aload_n 0, 1) := by decide +kernel
theorem d_MD_feed_22 : decode M_MD_feed.2.1 22 = .ok (.getfield 57, 3) := by decide +kernel
theorem d_MD_feed_25 : decode M_MD_feed.2.1 25 = .ok (.ifCond .le 5, 3) := by decide +kernel
theorem d_MD_feed_28 : decode M_MD_feed.2.1 28 = .ok (.iconst 0, 1) := by decide +kernel
theorem d_MD_feed_29 : decode M_MD_feed.2.1 29 = .ok (.ireturn, 1) := by decide +kernel
theorem d_MD_feed_30 : decode M_MD_feed.2.1 30 = .ok (.aload_n 0, 1) := by decide +kernel
theorem d_MD_feed_31 : decode M_MD_feed.2.1 31 = .ok (.iload_n 1, 1) := by decide +kernel
theorem d_MD_feed_32 : decode M_MD_feed.2.1 32 = .ok (.invokevirtual 63, 3) := by decide +kernel
theorem d_MD_feed_35 : decode M_MD_feed.2.1 35 = .ok (.aload_n 0, 1) := by decide +kernel
theorem d_MD_feed_36 : decode M_MD_feed.2.1 36 = .ok (.iload_n 2, 1) := by decide +kernel
theorem d_MD_feed_37 : decode M_MD_feed.2.1 37 = .ok (.invokevirtual 63, 3) := by decide +kernel
theorem d_MD_feed_40 : decode M_MD_feed.2.1 40 = .ok (.aload_n 0, 1) := by decide +kernel
theorem d_MD_feed_41 : decode M_MD_feed.2.1 41 = .ok (.iload_n 3, 1) := by decide +kernel
theorem d_MD_feed_42 : decode M_MD_feed.2.1 42 = .ok (.invokevirtual 63, 3) := by decide +kernel
theorem d_MD_feed_45 : decode M_MD_feed.2.1 45 = .ok (.aload_n 0, 1) := by decide +kernel
theorem d_MD_feed_46 : decode M_MD_feed.2.1 46 = .ok (.iload 4, 2) := by decide +kernel
theorem d_MD_feed_48 : decode M_MD_feed.2.1 48 = .ok (.invokevirtual 63, 3) := by decide +kernel
theorem d_MD_feed_51 : decode M_MD_feed.2.1 51 = .ok (.aload_n 0, 1) := by decide +kernel
theorem d_MD_feed_52 : decode M_MD_feed.2.1 52 = .ok (.iload 5, 2) := by decide +kernel
theorem d_MD_feed_54 : decode M_MD_feed.2.1 54 = .ok (.invokevirtual 63, 3) := by decide +kernel
theorem d_MD_feed_57 : decode M_MD_feed.2.1 57 = .ok (.aload_n 0, 1) := by decide +kernel
theorem d_MD_feed_58 : decode M_MD_feed.2.1 58 = .ok (.getfield 60, 3) := by decide +kernel
theorem d_MD_feed_61 : decode M_MD_feed.2.1 61 = .ok (.ireturn, 1) := by decide +kernel
theorem k_MD_feed : x_kV M_MD_feed "QuestionReaderModel" 5 := ⟨⟨by decide, Or.inl ⟨w_1227, rfl⟩⟩, w_1225, w_1226, ⟨by decide, by decide⟩, by decide +kernel⟩
def M_MD_trim : x_M := (⟨"QuestionReaderModel", "trim", "(I)I"⟩, prog_14_method_5_code, 2, some (.int), [])
theorem d_MD_trim_0 : decode M_MD_trim.2.1 0 = .ok (.aload_n 0, 1) := by decide +kernel
theorem d_MD_trim_1 : decode M_MD_trim.2.1 1 = .ok (.iload_n 1, 1) := by decide +kernel
theorem d_MD_trim_2 : decode M_MD_trim.2.1 2 = .ok (.ifCond .lt 17, 3) := by decide +kernel
theorem d_MD_trim_5 : decode M_MD_trim.2.1 5 = .ok (.iload_n 1, 1) := by decide +kernel
theorem d_MD_trim_6 : decode M_MD_trim.2.1 6 = .ok (.bipush 20, 2) := by decide +kernel
theorem d_MD_trim_8 : decode M_MD_trim.2.1 8 = .ok (.if_icmp .gt 11, 3) := by decide +kernel
theorem d_MD_trim_11 : decode M_MD_trim.2.1 11 = .ok (.iload_n 1, 1) := by decide +kernel
theorem d_MD_trim_12 : decode M_MD_trim.2.1 12 = .ok (.aload_n 0, 1) := by decide +kernel
theorem d_MD_trim_13 : decode M_MD_trim.2.1 13 = .ok (.getfield 60, 3) := by decide +kernel
theorem d_MD_trim_16 : decode M_MD_trim.2.1 16 = .ok (.if_icmp .le 7, 3) := by decide +kernel
theorem d_MD_trim_19 : decode M_MD_trim.2.1 19 = .ok (.iconst 1, 1) := by decide +kernel
theorem d_MD_trim_20 : decode M_MD_trim.2.1 20 = .ok (.goto 4, 3) := by decide +kernel
theorem d_MD_trim_23 : decode M_MD_trim.2.1 23 = .ok (.iconst 0, 1) := by decide +kernel
theorem d_MD_trim_24 : decode M_MD_trim.2.1 24 = .ok (.putfield 57, 3) := by decide +kernel
theorem d_MD_trim_27 : decode M_MD_trim.2.1 27 = .ok (.aload_n 0, 1) := by decide +kernel
theorem d_MD_trim_28 : decode M_MD_trim.2.1 28 = .ok (.getfield 57, 3) := by decide +kernel
theorem d_MD_trim_31 : decode M_MD_trim.2.1 31 = .ok (.ifCond .le 5, 3) := by decide +kernel
theorem d_MD_trim_34 : decode M_MD_trim.2.1 34 = .ok (.iconst 0, 1) := by decide +kernel
theorem d_MD_trim_35 : decode M_MD_trim.2.1 35 = .ok (.ireturn, 1) := by decide +kernel
theorem d_MD_trim_36 : decode M_MD_trim.2.1 36 = .ok (.aload_n 0, 1) := by decide +kernel
theorem d_MD_trim_37 : decode M_MD_trim.2.1 37 = .ok (.dup, 1) := by decide +kernel
theorem d_MD_trim_38 : decode M_MD_trim.2.1 38 = .ok (.getfield 60, 3) := by decide +kernel
theorem d_MD_trim_41 : decode M_MD_trim.2.1 41 = .ok (.iload_n 1, 1) := by decide +kernel
theorem d_MD_trim_42 : decode M_MD_trim.2.1 42 = .ok (.isub, 1) := by decide +kernel
theorem d_MD_trim_43 : decode M_MD_trim.2.1 43 = .ok (.putfield 60, 3) := by decide +kernel
theorem d_MD_trim_46 : decode M_MD_trim.2.1 46 = .ok (.aload_n 0, 1) := by decide +kernel
theorem d_MD_trim_47 : decode M_MD_trim.2.1 47 = .ok (.getfield 60, 3) := by decide +kernel
theorem d_MD_trim_50 : decode M_MD_trim.2.1 50 = .ok (.ireturn, 1) := by decide +kernel
theorem k_MD_trim : x_kV M_MD_trim "QuestionReaderModel" 1 := ⟨⟨by decide, Or.inl ⟨w_1235, rfl⟩⟩, w_1233, w_1234, ⟨by decide, by decide⟩, by decide +kernel⟩
def M_MD_isDigit : x_M := (⟨"QuestionReaderModel", "isDigit", "(I)Z"⟩, prog_14_method_8_code, 1, some (.boolean), [])
theorem d_MD_isDigit_0 : decode M_MD_isDigit.2.1 0 = .ok (.iload_n 0, 1) := by decide +kernel
theorem d_MD_isDigit_1 : decode M_MD_isDigit.2.1 1 = .ok (.bipush 48, 2) := by decide +kernel
theorem d_MD_isDigit_3 : decode M_MD_isDigit.2.1 3 = .ok (.if_icmp .lt 13, 3) := by decide +kernel
theorem d_MD_isDigit_6 : decode M_MD_isDigit.2.1 6 = .ok (.iload_n 0, 1) := by decide +kernel
theorem d_MD_isDigit_7 : decode M_MD_isDigit.2.1 7 = .ok (.bipush 57, 2) := by decide +kernel
theorem d_MD_isDigit_9 : decode M_MD_isDigit.2.1 9 = .ok (.if_icmp .gt 7, 3) := by decide +kernel
theorem d_MD_isDigit_12 : decode M_MD_isDigit.2.1 12 = .ok (.iconst 1, 1) := by decide +kernel
theorem d_MD_isDigit_13 : decode M_MD_isDigit.2.1 13 = .ok (.goto 4, 3) := by decide +kernel
theorem d_MD_isDigit_16 : decode M_MD_isDigit.2.1 16 = .ok (.iconst 0, 1) := by decide +kernel
theorem d_MD_isDigit_17 : decode M_MD_isDigit.2.1 17 = .ok (.ireturn, 1) := by decide +kernel
theorem k_MD_isDigit : x_kS M_MD_isDigit 1 := ⟨⟨by decide, Or.inl ⟨w_1253, rfl⟩⟩, w_1252, w_14, ⟨by decide, by decide⟩, by decide +kernel⟩
def M_MD_isLetter : x_M := (⟨"QuestionReaderModel", "isLetter", "(I)Z"⟩, prog_14_method_7_code, 1, some (.boolean), [])
theorem d_MD_isLetter_0 : decode M_MD_isLetter.2.1 0 = .ok (.iload_n 0, 1) := by decide +kernel
theorem d_MD_isLetter_1 : decode M_MD_isLetter.2.1 1 = .ok (.bipush 65, 2) := by decide +kernel
theorem d_MD_isLetter_3 : decode M_MD_isLetter.2.1 3 = .ok (.if_icmp .lt 9, 3) := by decide +kernel
theorem d_MD_isLetter_6 : decode M_MD_isLetter.2.1 6 = .ok (.iload_n 0, 1) := by decide +kernel
theorem d_MD_isLetter_7 : decode M_MD_isLetter.2.1 7 = .ok (.bipush 90, 2) := by decide +kernel
theorem d_MD_isLetter_9 : decode M_MD_isLetter.2.1 9 = .ok (.if_icmp .le 15, 3) := by decide +kernel
theorem d_MD_isLetter_12 : decode M_MD_isLetter.2.1 12 = .ok (.iload_n 0, 1) := by decide +kernel
theorem d_MD_isLetter_13 : decode M_MD_isLetter.2.1 13 = .ok (.bipush 97, 2) := by decide +kernel
theorem d_MD_isLetter_15 : decode M_MD_isLetter.2.1 15 = .ok (.if_icmp .lt 13, 3) := by decide +kernel
theorem d_MD_isLetter_18 : decode M_MD_isLetter.2.1 18 = .ok (.iload_n 0, 1) := by decide +kernel
theorem d_MD_isLetter_19 : decode M_MD_isLetter.2.1 19 = .ok (.bipush 122, 2) := by decide +kernel
theorem d_MD_isLetter_21 : decode M_MD_isLetter.2.1 21 = .ok (.if_icmp .gt 7, 3) := by decide +kernel
theorem d_MD_isLetter_24 : decode M_MD_isLetter.2.1 24 = .ok (.iconst 1, 1) := by decide +kernel
theorem d_MD_isLetter_25 : decode M_MD_isLetter.2.1 25 = .ok (.goto 4, 3) := by decide +kernel
theorem d_MD_isLetter_28 : decode M_MD_isLetter.2.1 28 = .ok (.iconst 0, 1) := by decide +kernel
theorem d_MD_isLetter_29 : decode M_MD_isLetter.2.1 29 = .ok (.ireturn, 1) := by decide +kernel
theorem k_MD_isLetter : x_kS M_MD_isLetter 1 := ⟨⟨by decide, Or.inl ⟨w_1250, rfl⟩⟩, w_1249, w_14, ⟨by decide, by decide⟩, by decide +kernel⟩
def M_MD_look : x_M := (⟨"QuestionReaderModel", "look", "(I)I"⟩, prog_14_method_9_code, 2, some (.int), [])
theorem d_MD_look_0 : decode M_MD_look.2.1 0 = .ok (.iload_n 1, 1) := by decide +kernel
theorem d_MD_look_1 : decode M_MD_look.2.1 1 = .ok (.aload_n 0, 1) := by decide +kernel
theorem d_MD_look_2 : decode M_MD_look.2.1 2 = .ok (.getfield 60, 3) := by decide +kernel
theorem d_MD_look_5 : decode M_MD_look.2.1 5 = .ok (.if_icmp .ge 16, 3) := by decide +kernel
theorem d_MD_look_8 : decode M_MD_look.2.1 8 = .ok (.aload_n 0, 1) := by decide +kernel
theorem d_MD_look_9 : decode M_MD_look.2.1 9 = .ok (.getfield 16, 3) := by decide +kernel
theorem d_MD_look_12 : decode M_MD_look.2.1 12 = .ok (.iload_n 1, 1) := by decide +kernel
theorem d_MD_look_13 : decode M_MD_look.2.1 13 = .ok (.baload, 1) := by decide +kernel
theorem d_MD_look_14 : decode M_MD_look.2.1 14 = .ok (.sipush 255, 3) := by decide +kernel
theorem d_MD_look_17 : decode M_MD_look.2.1 17 = .ok (.iand, 1) := by decide +kernel
theorem d_MD_look_18 : decode M_MD_look.2.1 18 = .ok (.goto 4, 3) := by decide +kernel
theorem d_MD_look_21 : decode M_MD_look.2.1 21 = .ok (.iconst 0, 1) := by decide +kernel
theorem d_MD_look_22 : decode M_MD_look.2.1 22 = .ok (.ireturn, 1) := by decide +kernel
theorem k_MD_look : x_kV M_MD_look "QuestionReaderModel" 1 := ⟨⟨by decide, Or.inl ⟨w_1247, rfl⟩⟩, w_1246, ws_38, ⟨by decide, by decide⟩, by decide +kernel⟩
def M_MD_want : x_M := (⟨"QuestionReaderModel", "want", "(ZII)Z"⟩, prog_14_method_6_code, 4, some (.boolean), [])
theorem d_MD_want_0 : decode M_MD_want.2.1 0 = .ok (.aload_n 0, 1) := by decide +kernel
theorem d_MD_want_1 : decode M_MD_want.2.1 1 = .ok (.getfield 67, 3) := by decide +kernel
theorem d_MD_want_4 : decode M_MD_want.2.1 4 = .ok (.ifCond .ne 17, 3) := by decide +kernel
theorem d_MD_want_7 : decode M_MD_want.2.1 7 = .ok (.iload_n 1, 1) := by decide +kernel
theorem d_MD_want_8 : decode M_MD_want.2.1 8 = .ok (.ifCond .ne 13, 3) := by decide +kernel
theorem d_MD_want_11 : decode M_MD_want.2.1 11 = .ok (.aload_n 0, 1) := by decide +kernel
theorem d_MD_want_12 : decode M_MD_want.2.1 12 = .ok (.iload_n 2, 1) := by decide +kernel
theorem d_MD_want_13 : decode M_MD_want.2.1 13 = .ok (.putfield 67, 3) := by decide +kernel
theorem d_MD_want_16 : decode M_MD_want.2.1 16 = .ok (.aload_n 0, 1) := by decide +kernel
theorem d_MD_want_17 : decode M_MD_want.2.1 17 = .ok (.iload_n 3, 1) := by decide +kernel
theorem d_MD_want_18 : decode M_MD_want.2.1 18 = .ok (.putfield 20, 3) := by decide +kernel
theorem d_MD_want_21 : decode M_MD_want.2.1 21 = .ok (.aload_n 0, 1) := by decide +kernel
theorem d_MD_want_22 : decode M_MD_want.2.1 22 = .ok (.getfield 67, 3) := by decide +kernel
theorem d_MD_want_25 : decode M_MD_want.2.1 25 = .ok (.ifCond .ne 7, 3) := by decide +kernel
theorem d_MD_want_28 : decode M_MD_want.2.1 28 = .ok (.iconst 1, 1) := by decide +kernel
theorem d_MD_want_29 : decode M_MD_want.2.1 29 = .ok (.goto 4, 3) := by decide +kernel
theorem d_MD_want_32 : decode M_MD_want.2.1 32 = .ok (.iconst 0, 1) := by decide +kernel
theorem d_MD_want_33 : decode M_MD_want.2.1 33 = .ok (.ireturn, 1) := by decide +kernel
theorem k_MD_want : x_kV M_MD_want "QuestionReaderModel" 3 := ⟨⟨by decide, Or.inl ⟨w_1318, rfl⟩⟩, w_1317, ws_41, ⟨by decide, by decide⟩, by decide +kernel⟩
def M_MD_readNumber : x_M := (⟨"QuestionReaderModel", "readNumber", "(Z)V"⟩, prog_14_method_11_code, 4, none, [])
theorem d_MD_readNumber_0 : decode M_MD_readNumber.2.1 0 = .ok (.aload_n 0, 1) := by decide +kernel
theorem d_MD_readNumber_1 : decode M_MD_readNumber.2.1 1 = .ok (.iconst 2, 1) := by decide +kernel
theorem d_MD_readNumber_2 : decode M_MD_readNumber.2.1 2 = .ok (.putfield 86, 3) := by decide +kernel
theorem d_MD_readNumber_5 : decode M_MD_readNumber.2.1 5 = .ok (.aload_n 0, 1) := by decide +kernel
theorem d_MD_readNumber_6 : decode M_MD_readNumber.2.1 6 = .ok (.dup, 1) := by decide +kernel
theorem d_MD_readNumber_7 : decode M_MD_readNumber.2.1 7 = .ok (.getfield 70, 3) := by decide +kernel
theorem d_MD_readNumber_10 : decode M_MD_readNumber.2.1 10 = .ok (.iload_n 1, 1) := by decide +kernel
theorem d_MD_readNumber_11 : decode M_MD_readNumber.2.1 11 = .ok (.ifCond .eq 7, 3) := by decide +kernel
theorem d_MD_readNumber_14 : decode M_MD_readNumber.2.1 14 = .ok (.iconst 1, 1) := by decide +kernel
theorem d_MD_readNumber_15 : decode M_MD_readNumber.2.1 15 = .ok (.goto 4, 3) := by decide +kernel
theorem d_MD_readNumber_18 : decode M_MD_readNumber.2.1 18 = .ok (.iconst 0, 1) := by decide +kernel
theorem d_MD_readNumber_19 : decode M_MD_readNumber.2.1 19 = .ok (.iadd, 1) := by decide +kernel
theorem d_MD_readNumber_20 : decode M_MD_readNumber.2.1 20 = .ok (.putfield 70, 3) := by decide +kernel
theorem d_MD_readNumber_23 : decode M_MD_readNumber.2.1 23 = .ok (.lconst 0, 1) := by decide +kernel
theorem d_MD_readNumber_24 : decode M_MD_readNumber.2.1 24 = .ok (.lstore_n 2, 1) := by decide +kernel
theorem d_MD_readNumber_25 : decode M_MD_readNumber.2.1 25 = .ok (.aload_n 0, 1) := by decide +kernel
theorem d_MD_readNumber_26 : decode M_MD_readNumber.2.1 26 = .ok (.getfield 70, 3) := by decide +kernel
theorem d_MD_readNumber_29 : decode M_MD_readNumber.2.1 29 = .ok (.aload_n 0, 1) := by decide +kernel
theorem d_MD_readNumber_30 : decode M_MD_readNumber.2.1 30 = .ok (.getfield 60, 3) := by decide +kernel
theorem d_MD_readNumber_33 : decode M_MD_readNumber.2.1 33 = .ok (.if_icmp .ge 62, 3) := by decide +kernel
theorem d_MD_readNumber_36 : decode M_MD_readNumber.2.1 36 = .ok (.aload_n 0, 1) := by decide +kernel
theorem d_MD_readNumber_37 : decode M_MD_readNumber.2.1 37 = .ok (.aload_n 0, 1) := by decide +kernel
theorem d_MD_readNumber_38 : decode M_MD_readNumber.2.1 38 = .ok (.getfield 70, 3) := by decide +kernel
theorem d_MD_readNumber_41 : decode M_MD_readNumber.2.1 41 = .ok (.invokevirtual 73, 3) := by decide +kernel
theorem d_MD_readNumber_44 : decode M_MD_readNumber.2.1 44 = .ok (.invokestatic 93, 3) := by decide +kernel
theorem d_MD_readNumber_47 : decode M_MD_readNumber.2.1 47 = .ok (.ifCond .eq 48, 3) := by decide +kernel
theorem d_MD_readNumber_50 : decode M_MD_readNumber.2.1 50 = .ok (.lload_n 2, 1) := by decide +kernel
theorem d_MD_readNumber_51 : decode M_MD_readNumber.2.1 51 = .ok (.ldc2_w 107, 3) := by decide +kernel
theorem d_MD_readNumber_54 : decode M_MD_readNumber.2.1 54 = .ok (.lcmp, 1) := by decide +kernel
theorem d_MD_readNumber_55 : decode M_MD_readNumber.2.1 55 = .ok (.ifCond .le 7, 3) := by decide +kernel
theorem d_MD_readNumber_58 : decode M_MD_readNumber.2.1 58 = .ok (.lload_n 2, 1) := by decide +kernel
theorem d_MD_readNumber_59 : decode M_MD_readNumber.2.1 59 = .ok (.goto 22, 3) := by decide +kernel
theorem d_MD_readNumber_62 : decode M_MD_readNumber.2.1 62 = .ok (.ldc2_w 109, 3) := by decide +kernel
theorem d_MD_readNumber_65 : decode M_MD_readNumber.2.1 65 = .ok (.lload_n 2, 1) := by decide +kernel
theorem d_MD_readNumber_66 : decode M_MD_readNumber.2.1 66 = .ok (.lmul, 1) := by decide +kernel
theorem d_MD_readNumber_67 : decode M_MD_readNumber.2.1 67 = .ok (.aload_n 0, 1) := by decide +kernel
theorem d_MD_readNumber_68 : decode M_MD_readNumber.2.1 68 = .ok (.aload_n 0, 1) := by decide +kernel
theorem d_MD_readNumber_69 : decode M_MD_readNumber.2.1 69 = .ok (.getfield 70, 3) := by decide +kernel
theorem d_MD_readNumber_72 : decode M_MD_readNumber.2.1 72 = .ok (.invokevirtual 73, 3) := by decide +kernel
theorem d_MD_readNumber_75 : decode M_MD_readNumber.2.1 75 = .ok (.i2l, 1) := by decide +kernel
theorem d_MD_readNumber_76 : decode M_MD_readNumber.2.1 76 = .ok (.ladd, 1) := by decide +kernel
theorem d_MD_readNumber_77 : decode M_MD_readNumber.2.1 77 = .ok (.ldc2_w 111, 3) := by decide +kernel
theorem d_MD_readNumber_80 : decode M_MD_readNumber.2.1 80 = .ok (.lsub, 1) := by decide +kernel
theorem d_MD_readNumber_81 : decode M_MD_readNumber.2.1 81 = .ok (.lstore_n 2, 1) := by decide +kernel
theorem d_MD_readNumber_82 : decode M_MD_readNumber.2.1 82 = .ok (.aload_n 0, 1) := by decide +kernel
theorem d_MD_readNumber_83 : decode M_MD_readNumber.2.1 83 = .ok (.dup, 1) := by decide +kernel
theorem d_MD_readNumber_84 : decode M_MD_readNumber.2.1 84 = .ok (.getfield 70, 3) := by decide +kernel
theorem d_MD_readNumber_87 : decode M_MD_readNumber.2.1 87 = .ok (.iconst 1, 1) := by decide +kernel
theorem d_MD_readNumber_88 : decode M_MD_readNumber.2.1 88 = .ok (.iadd, 1) := by decide +kernel
theorem d_MD_readNumber_89 : decode M_MD_readNumber.2.1 89 = .ok (.putfield 70, 3) := by decide +kernel
theorem d_MD_readNumber_92 : decode M_MD_readNumber.2.1 92 = .ok (.goto (-67), 3) := by decide +kernel
theorem d_MD_readNumber_95 : decode M_MD_readNumber.2.1 95 = .ok (.iload_n 1, 1) := by decide +kernel
theorem d_MD_readNumber_96 : decode M_MD_readNumber.2.1 96 = .ok (.ifCond .eq 8, 3) := by decide +kernel
theorem d_MD_readNumber_99 : decode M_MD_readNumber.2.1 99 = .ok (.lload_n 2, 1) := by decide +kernel
theorem d_MD_readNumber_100 : decode M_MD_readNumber.2.1 100 = .ok (.lneg, 1) := by decide +kernel
theorem d_MD_readNumber_101 : decode M_MD_readNumber.2.1 101 = .ok (.goto 4, 3) := by decide +kernel
theorem d_MD_readNumber_104 : decode M_MD_readNumber.2.1 104 = .ok (.lload_n 2, 1) := by decide +kernel
theorem d_MD_readNumber_105 : decode M_MD_readNumber.2.1 105 = .ok (.lstore_n 2, 1) := by decide +kernel
theorem d_MD_readNumber_106 : decode M_MD_readNumber.2.1 106 = .ok (.aload_n 0, 1) := by decide +kernel
theorem d_MD_readNumber_107 : decode M_MD_readNumber.2.1 107 = .ok (.lload_n 2, 1) := by decide +kernel
theorem d_MD_readNumber_108 : decode M_MD_readNumber.2.1 108 = .ok (.ldc2_w 113, 3) := by decide +kernel
theorem d_MD_readNumber_111 : decode M_MD_readNumber.2.1 111 = .ok (.lcmp, 1) := by decide +kernel
theorem d_MD_readNumber_112 : decode M_MD_readNumber.2.1 112 = .ok (.ifCond .lt 15, 3) := by decide +kernel
theorem d_MD_readNumber_115 : decode M_MD_readNumber.2.1 115 = .ok (.lload_n 2, 1) := by decide +kernel
theorem d_MD_readNumber_116 : decode M_MD_readNumber.2.1 116 = .ok (.ldc2_w 115, 3) := by decide +kernel
theorem d_MD_readNumber_119 : decode M_MD_readNumber.2.1 119 = .ok (.lcmp, 1) := by decide +kernel
theorem d_MD_readNumber_120 : decode M_MD_readNumber.2.1 120 = .ok (.ifCond .gt 7, 3) := by decide +kernel
theorem d_MD_readNumber_123 : decode M_MD_readNumber.2.1 123 = .ok (.iconst 1, 1) := by decide +kernel
theorem d_MD_readNumber_124 : decode M_MD_readNumber.2.1 124 = .ok (.goto 4, 3) := by decide +kernel
theorem d_MD_readNumber_127 : decode M_MD_readNumber.2.1 127 = .ok (.iconst 0, 1) := by decide +kernel
theorem d_MD_readNumber_128 : decode M_MD_readNumber.2.1 128 = .ok (.iconst 2, 1) := by decide +kernel
theorem d_MD_readNumber_129 : decode M_MD_readNumber.2.1 129 = .ok (.aload_n 0, 1) := by decide +kernel
theorem d_MD_readNumber_130 : decode M_MD_readNumber.2.1 130 = .ok (.getfield 77, 3) := by decide +kernel
theorem d_MD_readNumber_133 : decode M_MD_readNumber.2.1 133 = .ok (.invokevirtual 117, 3) := by decide +kernel
theorem d_MD_readNumber_136 : decode M_MD_readNumber.2.1 136 = .ok (.ifCond .eq 9, 3) := by decide +kernel
theorem d_MD_readNumber_139 : decode M_MD_readNumber.2.1 139 = .ok (.aload_n 0, 1) := by decide +kernel
theorem d_MD_readNumber_140 : decode M_MD_readNumber.2.1 140 = .ok (.lload_n 2, 1) := by decide +kernel
theorem d_MD_readNumber_141 : decode M_MD_readNumber.2.1 141 = .ok (.l2i, 1) := by decide +kernel
theorem d_MD_readNumber_142 : decode M_MD_readNumber.2.1 142 = .ok (.putfield 121, 3) := by decide +kernel
theorem d_MD_readNumber_145 : decode M_MD_readNumber.2.1 145 = .ok (.return_, 1) := by decide +kernel
theorem k_MD_readNumber : x_kV M_MD_readNumber "QuestionReaderModel" 1 := ⟨⟨by decide, Or.inl ⟨w_1309, rfl⟩⟩, w_1308, ws_40, ⟨by decide, by decide⟩, by decide +kernel⟩
def M_MD_readSign : x_M := (⟨"QuestionReaderModel", "readSign", "(I)V"⟩, prog_14_method_12_code, 5, none, [])
theorem d_MD_readSign_0 : decode M_MD_readSign.2.1 0 = .ok (.aload_n 0, 1) := by decide +kernel
theorem d_MD_readSign_1 : decode M_MD_readSign.2.1 1 = .ok (.aload_n 0, 1) := by decide +kernel
theorem d_MD_readSign_2 : decode M_MD_readSign.2.1 2 = .ok (.getfield 70, 3) := by decide +kernel
theorem d_MD_readSign_5 : decode M_MD_readSign.2.1 5 = .ok (.iconst 1, 1) := by decide +kernel
theorem d_MD_readSign_6 : decode M_MD_readSign.2.1 6 = .ok (.iadd, 1) := by decide +kernel
theorem d_MD_readSign_7 : decode M_MD_readSign.2.1 7 = .ok (.invokevirtual 73, 3) := by decide +kernel
theorem d_MD_readSign_10 : decode M_MD_readSign.2.1 10 = .ok (.istore_n 2, 1) := by decide +kernel
theorem d_MD_readSign_11 : decode M_MD_readSign.2.1 11 = .ok (.iload_n 1, 1) := by decide +kernel
theorem d_MD_readSign_12 : decode M_MD_readSign.2.1 12 = .ok (.bipush 60, 2) := by decide +kernel
theorem d_MD_readSign_14 : decode M_MD_readSign.2.1 14 = .ok (.if_icmp .ne 15, 3) := by decide +kernel
theorem d_MD_readSign_17 : decode M_MD_readSign.2.1 17 = .ok (.iload_n 2, 1) := by decide +kernel
theorem d_MD_readSign_18 : decode M_MD_readSign.2.1 18 = .ok (.bipush 61, 2) := by decide +kernel
theorem d_MD_readSign_20 : decode M_MD_readSign.2.1 20 = .ok (.if_icmp .eq 21, 3) := by decide +kernel
theorem d_MD_readSign_23 : decode M_MD_readSign.2.1 23 = .ok (.iload_n 2, 1) := by decide +kernel
theorem d_MD_readSign_24 : decode M_MD_readSign.2.1 24 = .ok (.bipush 62, 2) := by decide +kernel
theorem d_MD_readSign_26 : decode M_MD_readSign.2.1 26 = .ok (.if_icmp .eq 15, 3) := by decide +kernel
theorem d_MD_readSign_29 : decode M_MD_readSign.2.1 29 = .ok (.iload_n 1, 1) := by decide +kernel
theorem d_MD_readSign_30 : decode M_MD_readSign.2.1 30 = .ok (.bipush 62, 2) := by decide +kernel
theorem d_MD_readSign_32 : decode M_MD_readSign.2.1 32 = .ok (.if_icmp .ne 13, 3) := by decide +kernel
theorem d_MD_readSign_35 : decode M_MD_readSign.2.1 35 = .ok (.iload_n 2, 1) := by decide +kernel
theorem d_MD_readSign_36 : decode M_MD_readSign.2.1 36 = .ok (.bipush 61, 2) := by decide +kernel
theorem d_MD_readSign_38 : decode M_MD_readSign.2.1 38 = .ok (.if_icmp .ne 7, 3) := by decide +kernel
theorem d_MD_readSign_41 : decode M_MD_readSign.2.1 41 = .ok (.iconst 1, 1) := by decide +kernel
theorem d_MD_readSign_42 : decode M_MD_readSign.2.1 42 = .ok (.goto 4, 3) := by decide +kernel
theorem d_MD_readSign_45 : decode M_MD_readSign.2.1 45 = .ok (.iconst 0, 1) := by decide +kernel
theorem d_MD_readSign_46 : decode M_MD_readSign.2.1 46 = .ok (.istore_n 3, 1) := by decide +kernel
theorem d_MD_readSign_47 : decode M_MD_readSign.2.1 47 = .ok (.iload_n 1, 1) := by decide +kernel
theorem d_MD_readSign_48 : decode M_MD_readSign.2.1 48 = .ok (.bipush 40, 2) := by decide +kernel
theorem d_MD_readSign_50 : decode M_MD_readSign.2.1 50 = .ok (.if_icmp .eq 51, 3) := by decide +kernel
theorem d_MD_readSign_53 : decode M_MD_readSign.2.1 53 = .ok (.iload_n 1, 1) := by decide +kernel
theorem d_MD_readSign_54 : decode M_MD_readSign.2.1 54 = .ok (.bipush 41, 2) := by decide +kernel
theorem d_MD_readSign_56 : decode M_MD_readSign.2.1 56 = .ok (.if_icmp .eq 45, 3) := by decide +kernel
theorem d_MD_readSign_59 : decode M_MD_readSign.2.1 59 = .ok (.iload_n 1, 1) := by decide +kernel
theorem d_MD_readSign_60 : decode M_MD_readSign.2.1 60 = .ok (.bipush 44, 2) := by decide +kernel
theorem d_MD_readSign_62 : decode M_MD_readSign.2.1 62 = .ok (.if_icmp .eq 39, 3) := by decide +kernel
theorem d_MD_readSign_65 : decode M_MD_readSign.2.1 65 = .ok (.iload_n 1, 1) := by decide +kernel
theorem d_MD_readSign_66 : decode M_MD_readSign.2.1 66 = .ok (.bipush 59, 2) := by decide +kernel
theorem d_MD_readSign_68 : decode M_MD_readSign.2.1 68 = .ok (.if_icmp .eq 33, 3) := by decide +kernel
theorem d_MD_readSign_71 : decode M_MD_readSign.2.1 71 = .ok (.iload_n 1, 1) := by decide +kernel
theorem d_MD_readSign_72 : decode M_MD_readSign.2.1 72 = .ok (.bipush 46, 2) := by decide +kernel
theorem d_MD_readSign_74 : decode M_MD_readSign.2.1 74 = .ok (.if_icmp .eq 27, 3) := by decide +kernel
theorem d_MD_readSign_77 : decode M_MD_readSign.2.1 77 = .ok (.iload_n 1, 1) := by decide +kernel
theorem d_MD_readSign_78 : decode M_MD_readSign.2.1 78 = .ok (.bipush 42, 2) := by decide +kernel
theorem d_MD_readSign_80 : decode M_MD_readSign.2.1 80 = .ok (.if_icmp .eq 21, 3) := by decide +kernel
theorem d_MD_readSign_83 : decode M_MD_readSign.2.1 83 = .ok (.iload_n 1, 1) := by decide +kernel
theorem d_MD_readSign_84 : decode M_MD_readSign.2.1 84 = .ok (.bipush 61, 2) := by decide +kernel
theorem d_MD_readSign_86 : decode M_MD_readSign.2.1 86 = .ok (.if_icmp .eq 15, 3) := by decide +kernel
theorem d_MD_readSign_89 : decode M_MD_readSign.2.1 89 = .ok (.iload_n 1, 1) := by decide +kernel
theorem d_MD_readSign_90 : decode M_MD_readSign.2.1 90 = .ok (.bipush 60, 2) := by decide +kernel
theorem d_MD_readSign_92 : decode M_MD_readSign.2.1 92 = .ok (.if_icmp .eq 9, 3) := by decide +kernel
theorem d_MD_readSign_95 : decode M_MD_readSign.2.1 95 = .ok (.iload_n 1, 1) := by decide +kernel
theorem d_MD_readSign_96 : decode M_MD_readSign.2.1 96 = .ok (.bipush 62, 2) := by decide +kernel
theorem d_MD_readSign_98 : decode M_MD_readSign.2.1 98 = .ok (.if_icmp .ne 7, 3) := by decide +kernel
theorem d_MD_readSign_101 : decode M_MD_readSign.2.1 101 = .ok (.iconst 1, 1) := by decide +kernel
theorem d_MD_readSign_102 : decode M_MD_readSign.2.1 102 = .ok (.goto 4, 3) := by decide +kernel
theorem d_MD_readSign_105 : decode M_MD_readSign.2.1 105 = .ok (.iconst 0, 1) := by decide +kernel
theorem d_MD_readSign_106 : decode M_MD_readSign.2.1 106 = .ok (.istore 4, 2) := by decide +kernel
theorem d_MD_readSign_108 : decode M_MD_readSign.2.1 108 = .ok (.aload_n 0, 1) := by decide +kernel
theorem d_MD_readSign_109 : decode M_MD_readSign.2.1 109 = .ok (.iload 4, 2) := by decide +kernel
theorem d_MD_readSign_111 : decode M_MD_readSign.2.1 111 = .ok (.iconst 1, 1) := by decide +kernel
theorem d_MD_readSign_112 : decode M_MD_readSign.2.1 112 = .ok (.aload_n 0, 1) := by decide +kernel
theorem d_MD_readSign_113 : decode M_MD_readSign.2.1 113 = .ok (.getfield 77, 3) := by decide +kernel
theorem d_MD_readSign_116 : decode M_MD_readSign.2.1 116 = .ok (.invokevirtual 117, 3) := by decide +kernel
theorem d_MD_readSign_119 : decode M_MD_readSign.2.1 119 = .ok (.ifCond .eq 40, 3) := by decide +kernel
theorem d_MD_readSign_122 : decode M_MD_readSign.2.1 122 = .ok (.aload_n 0, 1) := by decide +kernel
theorem d_MD_readSign_123 : decode M_MD_readSign.2.1 123 = .ok (.iload_n 3, 1) := by decide +kernel
theorem d_MD_readSign_124 : decode M_MD_readSign.2.1 124 = .ok (.ifCond .eq 13, 3) := by decide +kernel
theorem d_MD_readSign_127 : decode M_MD_readSign.2.1 127 = .ok (.sipush 256, 3) := by decide +kernel
theorem d_MD_readSign_130 : decode M_MD_readSign.2.1 130 = .ok (.iload_n 1, 1) := by decide +kernel
theorem d_MD_readSign_131 : decode M_MD_readSign.2.1 131 = .ok (.imul, 1) := by decide +kernel
theorem d_MD_readSign_132 : decode M_MD_readSign.2.1 132 = .ok (.iload_n 2, 1) := by decide +kernel
theorem d_MD_readSign_133 : decode M_MD_readSign.2.1 133 = .ok (.iadd, 1) := by decide +kernel
theorem d_MD_readSign_134 : decode M_MD_readSign.2.1 134 = .ok (.goto 4, 3) := by decide +kernel
theorem d_MD_readSign_137 : decode M_MD_readSign.2.1 137 = .ok (.iload_n 1, 1) := by decide +kernel
theorem d_MD_readSign_138 : decode M_MD_readSign.2.1 138 = .ok (.putfield 83, 3) := by decide +kernel
theorem d_MD_readSign_141 : decode M_MD_readSign.2.1 141 = .ok (.aload_n 0, 1) := by decide +kernel
theorem d_MD_readSign_142 : decode M_MD_readSign.2.1 142 = .ok (.dup, 1) := by decide +kernel
theorem d_MD_readSign_143 : decode M_MD_readSign.2.1 143 = .ok (.getfield 70, 3) := by decide +kernel
theorem d_MD_readSign_146 : decode M_MD_readSign.2.1 146 = .ok (.iload_n 3, 1) := by decide +kernel
theorem d_MD_readSign_147 : decode M_MD_readSign.2.1 147 = .ok (.ifCond .eq 7, 3) := by decide +kernel
theorem d_MD_readSign_150 : decode M_MD_readSign.2.1 150 = .ok (.iconst 2, 1) := by decide +kernel
theorem d_MD_readSign_151 : decode M_MD_readSign.2.1 151 = .ok (.goto 4, 3) := by decide +kernel
theorem d_MD_readSign_154 : decode M_MD_readSign.2.1 154 = .ok (.iconst 1, 1) := by decide +kernel
theorem d_MD_readSign_155 : decode M_MD_readSign.2.1 155 = .ok (.iadd, 1) := by decide +kernel
theorem d_MD_readSign_156 : decode M_MD_readSign.2.1 156 = .ok (.putfield 70, 3) := by decide +kernel
theorem d_MD_readSign_159 : decode M_MD_readSign.2.1 159 = .ok (.return_, 1) := by decide +kernel
theorem k_MD_readSign : x_kV M_MD_readSign "QuestionReaderModel" 1 := ⟨⟨by decide, Or.inl ⟨w_1322, rfl⟩⟩, w_1321, ws_42, ⟨by decide, by decide⟩, by decide +kernel⟩
def M_MD_wordOf : x_M := (⟨"QuestionReaderModel", "wordOf", "()I"⟩, prog_14_method_13_code, 4, some (.int), [])
theorem d_MD_wordOf_0 : decode M_MD_wordOf.2.1 0 = .ok (.iconst 0, 1) := by decide +kernel
theorem d_MD_wordOf_1 : decode M_MD_wordOf.2.1 1 = .ok (.istore_n 1, 1) := by decide +kernel
theorem d_MD_wordOf_2 : decode M_MD_wordOf.2.1 2 = .ok (.iconst 0, 1) := by decide +kernel
theorem d_MD_wordOf_3 : decode M_MD_wordOf.2.1 3 = .ok (.istore_n 2, 1) := by decide +kernel
theorem d_MD_wordOf_4 : decode M_MD_wordOf.2.1 4 = .ok (.iload_n 2, 1) := by decide +kernel
theorem d_MD_wordOf_5 : decode M_MD_wordOf.2.1 5 = .ok (.iconst 1, 1) := by decide +kernel
theorem d_MD_wordOf_6 : decode M_MD_wordOf.2.1 6 = .ok (.iadd, 1) := by decide +kernel
theorem d_MD_wordOf_7 : decode M_MD_wordOf.2.1 7 = .ok (.ldc 7, 2) := by decide +kernel
theorem d_MD_wordOf_9 : decode M_MD_wordOf.2.1 9 = .ok (.invokevirtual 124, 3) := by decide +kernel
theorem d_MD_wordOf_12 : decode M_MD_wordOf.2.1 12 = .ok (.if_icmp .ge 103, 3) := by decide +kernel
theorem d_MD_wordOf_15 : decode M_MD_wordOf.2.1 15 = .ok (.iconst 0, 1) := by decide +kernel
theorem d_MD_wordOf_16 : decode M_MD_wordOf.2.1 16 = .ok (.istore_n 3, 1) := by decide +kernel
theorem d_MD_wordOf_17 : decode M_MD_wordOf.2.1 17 = .ok (.aload_n 0, 1) := by decide +kernel
theorem d_MD_wordOf_18 : decode M_MD_wordOf.2.1 18 = .ok (.getfield 77, 3) := by decide +kernel
theorem d_MD_wordOf_21 : decode M_MD_wordOf.2.1 21 = .ok (.iload_n 3, 1) := by decide +kernel
theorem d_MD_wordOf_22 : decode M_MD_wordOf.2.1 22 = .ok (.iadd, 1) := by decide +kernel
theorem d_MD_wordOf_23 : decode M_MD_wordOf.2.1 23 = .ok (.aload_n 0, 1) := by decide +kernel
theorem d_MD_wordOf_24 : decode M_MD_wordOf.2.1 24 = .ok (.getfield 70, 3) := by decide +kernel
theorem d_MD_wordOf_27 : decode M_MD_wordOf.2.1 27 = .ok (.if_icmp .ge 32, 3) := by decide +kernel
theorem d_MD_wordOf_30 : decode M_MD_wordOf.2.1 30 = .ok (.ldc 7, 2) := by decide +kernel
theorem d_MD_wordOf_32 : decode M_MD_wordOf.2.1 32 = .ok (.iload_n 2, 1) := by decide +kernel
theorem d_MD_wordOf_33 : decode M_MD_wordOf.2.1 33 = .ok (.iconst 1, 1) := by decide +kernel
theorem d_MD_wordOf_34 : decode M_MD_wordOf.2.1 34 = .ok (.iadd, 1) := by decide +kernel
theorem d_MD_wordOf_35 : decode M_MD_wordOf.2.1 35 = .ok (.iload_n 3, 1) := by decide +kernel
theorem d_MD_wordOf_36 : decode M_MD_wordOf.2.1 36 = .ok (.iadd, 1) := by decide +kernel
theorem d_MD_wordOf_37 : decode M_MD_wordOf.2.1 37 = .ok (.invokevirtual 129, 3) := by decide +kernel
theorem d_MD_wordOf_40 : decode M_MD_wordOf.2.1 40 = .ok (.aload_n 0, 1) := by decide +kernel
theorem d_MD_wordOf_41 : decode M_MD_wordOf.2.1 41 = .ok (.aload_n 0, 1) := by decide +kernel
theorem d_MD_wordOf_42 : decode M_MD_wordOf.2.1 42 = .ok (.getfield 77, 3) := by decide +kernel
theorem d_MD_wordOf_45 : decode M_MD_wordOf.2.1 45 = .ok (.iload_n 3, 1) := by decide +kernel
theorem d_MD_wordOf_46 : decode M_MD_wordOf.2.1 46 = .ok (.iadd, 1) := by decide +kernel
theorem d_MD_wordOf_47 : decode M_MD_wordOf.2.1 47 = .ok (.invokevirtual 73, 3) := by decide +kernel
theorem d_MD_wordOf_50 : decode M_MD_wordOf.2.1 50 = .ok (.if_icmp .ne 9, 3) := by decide +kernel
theorem d_MD_wordOf_53 : decode M_MD_wordOf.2.1 53 = .ok (.iinc 3 1, 3) := by decide +kernel
theorem d_MD_wordOf_56 : decode M_MD_wordOf.2.1 56 = .ok (.goto (-39), 3) := by decide +kernel
theorem d_MD_wordOf_59 : decode M_MD_wordOf.2.1 59 = .ok (.aload_n 0, 1) := by decide +kernel
theorem d_MD_wordOf_60 : decode M_MD_wordOf.2.1 60 = .ok (.getfield 77, 3) := by decide +kernel
theorem d_MD_wordOf_63 : decode M_MD_wordOf.2.1 63 = .ok (.iload_n 3, 1) := by decide +kernel
theorem d_MD_wordOf_64 : decode M_MD_wordOf.2.1 64 = .ok (.iadd, 1) := by decide +kernel
theorem d_MD_wordOf_65 : decode M_MD_wordOf.2.1 65 = .ok (.aload_n 0, 1) := by decide +kernel
theorem d_MD_wordOf_66 : decode M_MD_wordOf.2.1 66 = .ok (.getfield 70, 3) := by decide +kernel
theorem d_MD_wordOf_69 : decode M_MD_wordOf.2.1 69 = .ok (.if_icmp .ne 20, 3) := by decide +kernel
theorem d_MD_wordOf_72 : decode M_MD_wordOf.2.1 72 = .ok (.ldc 7, 2) := by decide +kernel
theorem d_MD_wordOf_74 : decode M_MD_wordOf.2.1 74 = .ok (.iload_n 2, 1) := by decide +kernel
theorem d_MD_wordOf_75 : decode M_MD_wordOf.2.1 75 = .ok (.iconst 1, 1) := by decide +kernel
theorem d_MD_wordOf_76 : decode M_MD_wordOf.2.1 76 = .ok (.iadd, 1) := by decide +kernel
theorem d_MD_wordOf_77 : decode M_MD_wordOf.2.1 77 = .ok (.iload_n 3, 1) := by decide +kernel
theorem d_MD_wordOf_78 : decode M_MD_wordOf.2.1 78 = .ok (.iadd, 1) := by decide +kernel
theorem d_MD_wordOf_79 : decode M_MD_wordOf.2.1 79 = .ok (.invokevirtual 129, 3) := by decide +kernel
theorem d_MD_wordOf_82 : decode M_MD_wordOf.2.1 82 = .ok (.bipush 32, 2) := by decide +kernel
theorem d_MD_wordOf_84 : decode M_MD_wordOf.2.1 84 = .ok (.if_icmp .ne 5, 3) := by decide +kernel
theorem d_MD_wordOf_87 : decode M_MD_wordOf.2.1 87 = .ok (.iload_n 1, 1) := by decide +kernel
theorem d_MD_wordOf_88 : decode M_MD_wordOf.2.1 88 = .ok (.ireturn, 1) := by decide +kernel
theorem d_MD_wordOf_89 : decode M_MD_wordOf.2.1 89 = .ok (.iinc 2 1, 3) := by decide +kernel
theorem d_MD_wordOf_92 : decode M_MD_wordOf.2.1 92 = .ok (.ldc 7, 2) := by decide +kernel
theorem d_MD_wordOf_94 : decode M_MD_wordOf.2.1 94 = .ok (.iload_n 2, 1) := by decide +kernel
theorem d_MD_wordOf_95 : decode M_MD_wordOf.2.1 95 = .ok (.invokevirtual 129, 3) := by decide +kernel
theorem d_MD_wordOf_98 : decode M_MD_wordOf.2.1 98 = .ok (.bipush 32, 2) := by decide +kernel
theorem d_MD_wordOf_100 : decode M_MD_wordOf.2.1 100 = .ok (.if_icmp .eq 9, 3) := by decide +kernel
theorem d_MD_wordOf_103 : decode M_MD_wordOf.2.1 103 = .ok (.iinc 2 1, 3) := by decide +kernel
theorem d_MD_wordOf_106 : decode M_MD_wordOf.2.1 106 = .ok (.goto (-14), 3) := by decide +kernel
theorem d_MD_wordOf_109 : decode M_MD_wordOf.2.1 109 = .ok (.iinc 1 1, 3) := by decide +kernel
theorem d_MD_wordOf_112 : decode M_MD_wordOf.2.1 112 = .ok (.goto (-108), 3) := by decide +kernel
theorem d_MD_wordOf_115 : decode M_MD_wordOf.2.1 115 = .ok (.iconst (-1), 1) := by decide +kernel
theorem d_MD_wordOf_116 : decode M_MD_wordOf.2.1 116 = .ok (.ireturn, 1) := by decide +kernel
theorem k_MD_wordOf : x_kV M_MD_wordOf "QuestionReaderModel" 0 := ⟨⟨by decide, Or.inl ⟨w_1257, rfl⟩⟩, w_1256, ws_39, ⟨by decide, by decide⟩, by decide +kernel⟩
def M_MD_read : x_M := (⟨"QuestionReaderModel", "read", "()V"⟩, prog_14_method_10_code, 2, none, [])
theorem d_MD_read_0 : decode M_MD_read.2.1 0 = .ok (.aload_n 0, 1) := by decide +kernel
theorem d_MD_read_1 : decode M_MD_read.2.1 1 = .ok (.getfield 67, 3) := by decide +kernel
theorem d_MD_read_4 : decode M_MD_read.2.1 4 = .ok (.ifCond .le 4, 3) := by decide +kernel
theorem d_MD_read_7 : decode M_MD_read.2.1 7 = .ok (.return_, 1) := by decide +kernel
theorem d_MD_read_8 : decode M_MD_read.2.1 8 = .ok (.aload_n 0, 1) := by decide +kernel
theorem d_MD_read_9 : decode M_MD_read.2.1 9 = .ok (.getfield 70, 3) := by decide +kernel
theorem d_MD_read_12 : decode M_MD_read.2.1 12 = .ok (.aload_n 0, 1) := by decide +kernel
theorem d_MD_read_13 : decode M_MD_read.2.1 13 = .ok (.getfield 60, 3) := by decide +kernel
theorem d_MD_read_16 : decode M_MD_read.2.1 16 = .ok (.if_icmp .ge 68, 3) := by decide +kernel
theorem d_MD_read_19 : decode M_MD_read.2.1 19 = .ok (.aload_n 0, 1) := by decide +kernel
theorem d_MD_read_20 : decode M_MD_read.2.1 20 = .ok (.aload_n 0, 1) := by decide +kernel
theorem d_MD_read_21 : decode M_MD_read.2.1 21 = .ok (.getfield 70, 3) := by decide +kernel
theorem d_MD_read_24 : decode M_MD_read.2.1 24 = .ok (.invokevirtual 73, 3) := by decide +kernel
theorem d_MD_read_27 : decode M_MD_read.2.1 27 = .ok (.bipush 32, 2) := by decide +kernel
theorem d_MD_read_29 : decode M_MD_read.2.1 29 = .ok (.if_icmp .eq 42, 3) := by decide +kernel
theorem d_MD_read_32 : decode M_MD_read.2.1 32 = .ok (.aload_n 0, 1) := by decide +kernel
theorem d_MD_read_33 : decode M_MD_read.2.1 33 = .ok (.aload_n 0, 1) := by decide +kernel
theorem d_MD_read_34 : decode M_MD_read.2.1 34 = .ok (.getfield 70, 3) := by decide +kernel
theorem d_MD_read_37 : decode M_MD_read.2.1 37 = .ok (.invokevirtual 73, 3) := by decide +kernel
theorem d_MD_read_40 : decode M_MD_read.2.1 40 = .ok (.bipush 9, 2) := by decide +kernel
theorem d_MD_read_42 : decode M_MD_read.2.1 42 = .ok (.if_icmp .eq 29, 3) := by decide +kernel
theorem d_MD_read_45 : decode M_MD_read.2.1 45 = .ok (.aload_n 0, 1) := by decide +kernel
theorem d_MD_read_46 : decode M_MD_read.2.1 46 = .ok (.aload_n 0, 1) := by decide +kernel
theorem d_MD_read_47 : decode M_MD_read.2.1 47 = .ok (.getfield 70, 3) := by decide +kernel
theorem d_MD_read_50 : decode M_MD_read.2.1 50 = .ok (.invokevirtual 73, 3) := by decide +kernel
theorem d_MD_read_53 : decode M_MD_read.2.1 53 = .ok (.bipush 10, 2) := by decide +kernel
theorem d_MD_read_55 : decode M_MD_read.2.1 55 = .ok (.if_icmp .eq 16, 3) := by decide +kernel
theorem d_MD_read_58 : decode M_MD_read.2.1 58 = .ok (.aload_n 0, 1) := by decide +kernel
theorem d_MD_read_59 : decode M_MD_read.2.1 59 = .ok (.aload_n 0, 1) := by decide +kernel
theorem d_MD_read_60 : decode M_MD_read.2.1 60 = .ok (.getfield 70, 3) := by decide +kernel
theorem d_MD_read_63 : decode M_MD_read.2.1 63 = .ok (.invokevirtual 73, 3) := by decide +kernel
theorem d_MD_read_66 : decode M_MD_read.2.1 66 = .ok (.bipush 13, 2) := by decide +kernel
theorem d_MD_read_68 : decode M_MD_read.2.1 68 = .ok (.if_icmp .ne 16, 3) := by decide +kernel
theorem d_MD_read_71 : decode M_MD_read.2.1 71 = .ok (.aload_n 0, 1) := by decide +kernel
theorem d_MD_read_72 : decode M_MD_read.2.1 72 = .ok (.dup, 1) := by decide +kernel
theorem d_MD_read_73 : decode M_MD_read.2.1 73 = .ok (.getfield 70, 3) := by decide +kernel
theorem d_MD_read_76 : decode M_MD_read.2.1 76 = .ok (.iconst 1, 1) := by decide +kernel
theorem d_MD_read_77 : decode M_MD_read.2.1 77 = .ok (.iadd, 1) := by decide +kernel
theorem d_MD_read_78 : decode M_MD_read.2.1 78 = .ok (.putfield 70, 3) := by decide +kernel
theorem d_MD_read_81 : decode M_MD_read.2.1 81 = .ok (.goto (-73), 3) := by decide +kernel
theorem d_MD_read_84 : decode M_MD_read.2.1 84 = .ok (.aload_n 0, 1) := by decide +kernel
theorem d_MD_read_85 : decode M_MD_read.2.1 85 = .ok (.aload_n 0, 1) := by decide +kernel
theorem d_MD_read_86 : decode M_MD_read.2.1 86 = .ok (.getfield 70, 3) := by decide +kernel
theorem d_MD_read_89 : decode M_MD_read.2.1 89 = .ok (.putfield 77, 3) := by decide +kernel
theorem d_MD_read_92 : decode M_MD_read.2.1 92 = .ok (.aload_n 0, 1) := by decide +kernel
theorem d_MD_read_93 : decode M_MD_read.2.1 93 = .ok (.iconst (-1), 1) := by decide +kernel
theorem d_MD_read_94 : decode M_MD_read.2.1 94 = .ok (.putfield 80, 3) := by decide +kernel
theorem d_MD_read_97 : decode M_MD_read.2.1 97 = .ok (.aload_n 0, 1) := by decide +kernel
theorem d_MD_read_98 : decode M_MD_read.2.1 98 = .ok (.iconst 0, 1) := by decide +kernel
theorem d_MD_read_99 : decode M_MD_read.2.1 99 = .ok (.putfield 83, 3) := by decide +kernel
theorem d_MD_read_102 : decode M_MD_read.2.1 102 = .ok (.aload_n 0, 1) := by decide +kernel
theorem d_MD_read_103 : decode M_MD_read.2.1 103 = .ok (.aload_n 0, 1) := by decide +kernel
theorem d_MD_read_104 : decode M_MD_read.2.1 104 = .ok (.getfield 70, 3) := by decide +kernel
theorem d_MD_read_107 : decode M_MD_read.2.1 107 = .ok (.invokevirtual 73, 3) := by decide +kernel
theorem d_MD_read_110 : decode M_MD_read.2.1 110 = .ok (.istore_n 1, 1) := by decide +kernel
theorem d_MD_read_111 : decode M_MD_read.2.1 111 = .ok (.aload_n 0, 1) := by decide +kernel
theorem d_MD_read_112 : decode M_MD_read.2.1 112 = .ok (.getfield 70, 3) := by decide +kernel
theorem d_MD_read_115 : decode M_MD_read.2.1 115 = .ok (.aload_n 0, 1) := by decide +kernel
theorem d_MD_read_116 : decode M_MD_read.2.1 116 = .ok (.getfield 60, 3) := by decide +kernel
theorem d_MD_read_119 : decode M_MD_read.2.1 119 = .ok (.if_icmp .ne 11, 3) := by decide +kernel
theorem d_MD_read_122 : decode M_MD_read.2.1 122 = .ok (.aload_n 0, 1) := by decide +kernel
theorem d_MD_read_123 : decode M_MD_read.2.1 123 = .ok (.iconst 0, 1) := by decide +kernel
theorem d_MD_read_124 : decode M_MD_read.2.1 124 = .ok (.putfield 86, 3) := by decide +kernel
theorem d_MD_read_127 : decode M_MD_read.2.1 127 = .ok (.goto 148, 3) := by decide +kernel
theorem d_MD_read_130 : decode M_MD_read.2.1 130 = .ok (.iload_n 1, 1) := by decide +kernel
theorem d_MD_read_131 : decode M_MD_read.2.1 131 = .ok (.invokestatic 89, 3) := by decide +kernel
theorem d_MD_read_134 : decode M_MD_read.2.1 134 = .ok (.ifCond .eq 84, 3) := by decide +kernel
theorem d_MD_read_137 : decode M_MD_read.2.1 137 = .ok (.aload_n 0, 1) := by decide +kernel
theorem d_MD_read_138 : decode M_MD_read.2.1 138 = .ok (.getfield 70, 3) := by decide +kernel
theorem d_MD_read_141 : decode M_MD_read.2.1 141 = .ok (.aload_n 0, 1) := by decide +kernel
theorem d_MD_read_142 : decode M_MD_read.2.1 142 = .ok (.getfield 60, 3) := by decide +kernel
theorem d_MD_read_145 : decode M_MD_read.2.1 145 = .ok (.if_icmp .ge 57, 3) := by decide +kernel
theorem d_MD_read_148 : decode M_MD_read.2.1 148 = .ok (.aload_n 0, 1) := by decide +kernel
theorem d_MD_read_149 : decode M_MD_read.2.1 149 = .ok (.aload_n 0, 1) := by decide +kernel
theorem d_MD_read_150 : decode M_MD_read.2.1 150 = .ok (.getfield 70, 3) := by decide +kernel
theorem d_MD_read_153 : decode M_MD_read.2.1 153 = .ok (.invokevirtual 73, 3) := by decide +kernel
theorem d_MD_read_156 : decode M_MD_read.2.1 156 = .ok (.invokestatic 89, 3) := by decide +kernel
theorem d_MD_read_159 : decode M_MD_read.2.1 159 = .ok (.ifCond .ne 30, 3) := by decide +kernel
theorem d_MD_read_162 : decode M_MD_read.2.1 162 = .ok (.aload_n 0, 1) := by decide +kernel
theorem d_MD_read_163 : decode M_MD_read.2.1 163 = .ok (.aload_n 0, 1) := by decide +kernel
theorem d_MD_read_164 : decode M_MD_read.2.1 164 = .ok (.getfield 70, 3) := by decide +kernel
theorem d_MD_read_167 : decode M_MD_read.2.1 167 = .ok (.invokevirtual 73, 3) := by decide +kernel
theorem d_MD_read_170 : decode M_MD_read.2.1 170 = .ok (.invokestatic 93, 3) := by decide +kernel
theorem d_MD_read_173 : decode M_MD_read.2.1 173 = .ok (.ifCond .ne 16, 3) := by decide +kernel
theorem d_MD_read_176 : decode M_MD_read.2.1 176 = .ok (.aload_n 0, 1) := by decide +kernel
theorem d_MD_read_177 : decode M_MD_read.2.1 177 = .ok (.aload_n 0, 1) := by decide +kernel
theorem d_MD_read_178 : decode M_MD_read.2.1 178 = .ok (.getfield 70, 3) := by decide +kernel
theorem d_MD_read_181 : decode M_MD_read.2.1 181 = .ok (.invokevirtual 73, 3) := by decide +kernel
theorem d_MD_read_184 : decode M_MD_read.2.1 184 = .ok (.bipush 95, 2) := by decide +kernel
theorem d_MD_read_186 : decode M_MD_read.2.1 186 = .ok (.if_icmp .ne 16, 3) := by decide +kernel
theorem d_MD_read_189 : decode M_MD_read.2.1 189 = .ok (.aload_n 0, 1) := by decide +kernel
theorem d_MD_read_190 : decode M_MD_read.2.1 190 = .ok (.dup, 1) := by decide +kernel
theorem d_MD_read_191 : decode M_MD_read.2.1 191 = .ok (.getfield 70, 3) := by decide +kernel
theorem d_MD_read_194 : decode M_MD_read.2.1 194 = .ok (.iconst 1, 1) := by decide +kernel
theorem d_MD_read_195 : decode M_MD_read.2.1 195 = .ok (.iadd, 1) := by decide +kernel
theorem d_MD_read_196 : decode M_MD_read.2.1 196 = .ok (.putfield 70, 3) := by decide +kernel
theorem d_MD_read_199 : decode M_MD_read.2.1 199 = .ok (.goto (-62), 3) := by decide +kernel
theorem d_MD_read_202 : decode M_MD_read.2.1 202 = .ok (.aload_n 0, 1) := by decide +kernel
theorem d_MD_read_203 : decode M_MD_read.2.1 203 = .ok (.iconst 1, 1) := by decide +kernel
theorem d_MD_read_204 : decode M_MD_read.2.1 204 = .ok (.putfield 86, 3) := by decide +kernel
theorem d_MD_read_207 : decode M_MD_read.2.1 207 = .ok (.aload_n 0, 1) := by decide +kernel
theorem d_MD_read_208 : decode M_MD_read.2.1 208 = .ok (.aload_n 0, 1) := by decide +kernel
theorem d_MD_read_209 : decode M_MD_read.2.1 209 = .ok (.invokevirtual 96, 3) := by decide +kernel
theorem d_MD_read_212 : decode M_MD_read.2.1 212 = .ok (.putfield 80, 3) := by decide +kernel
theorem d_MD_read_215 : decode M_MD_read.2.1 215 = .ok (.goto 60, 3) := by decide +kernel
theorem d_MD_read_218 : decode M_MD_read.2.1 218 = .ok (.iload_n 1, 1) := by decide +kernel
theorem d_MD_read_219 : decode M_MD_read.2.1 219 = .ok (.invokestatic 93, 3) := by decide +kernel
theorem d_MD_read_222 : decode M_MD_read.2.1 222 = .ok (.ifCond .ne 25, 3) := by decide +kernel
theorem d_MD_read_225 : decode M_MD_read.2.1 225 = .ok (.iload_n 1, 1) := by decide +kernel
theorem d_MD_read_226 : decode M_MD_read.2.1 226 = .ok (.bipush 45, 2) := by decide +kernel
theorem d_MD_read_228 : decode M_MD_read.2.1 228 = .ok (.if_icmp .ne 37, 3) := by decide +kernel
theorem d_MD_read_231 : decode M_MD_read.2.1 231 = .ok (.aload_n 0, 1) := by decide +kernel
theorem d_MD_read_232 : decode M_MD_read.2.1 232 = .ok (.aload_n 0, 1) := by decide +kernel
theorem d_MD_read_233 : decode M_MD_read.2.1 233 = .ok (.getfield 70, 3) := by decide +kernel
theorem d_MD_read_236 : decode M_MD_read.2.1 236 = .ok (.iconst 1, 1) := by decide +kernel
theorem d_MD_read_237 : decode M_MD_read.2.1 237 = .ok (.iadd, 1) := by decide +kernel
theorem d_MD_read_238 : decode M_MD_read.2.1 238 = .ok (.invokevirtual 73, 3) := by decide +kernel
theorem d_MD_read_241 : decode M_MD_read.2.1 241 = .ok (.invokestatic 93, 3) := by decide +kernel
theorem d_MD_read_244 : decode M_MD_read.2.1 244 = .ok (.ifCond .eq 21, 3) := by decide +kernel
theorem d_MD_read_247 : decode M_MD_read.2.1 247 = .ok (.aload_n 0, 1) := by decide +kernel
theorem d_MD_read_248 : decode M_MD_read.2.1 248 = .ok (.iload_n 1, 1) := by decide +kernel
theorem d_MD_read_249 : decode M_MD_read.2.1 249 = .ok (.bipush 45, 2) := by decide +kernel
theorem d_MD_read_251 : decode M_MD_read.2.1 251 = .ok (.if_icmp .ne 7, 3) := by decide +kernel
theorem d_MD_read_254 : decode M_MD_read.2.1 254 = .ok (.iconst 1, 1) := by decide +kernel
theorem d_MD_read_255 : decode M_MD_read.2.1 255 = .ok (.goto 4, 3) := by decide +kernel
theorem d_MD_read_258 : decode M_MD_read.2.1 258 = .ok (.iconst 0, 1) := by decide +kernel
theorem d_MD_read_259 : decode M_MD_read.2.1 259 = .ok (.invokevirtual 100, 3) := by decide +kernel
theorem d_MD_read_262 : decode M_MD_read.2.1 262 = .ok (.goto 13, 3) := by decide +kernel
theorem d_MD_read_265 : decode M_MD_read.2.1 265 = .ok (.aload_n 0, 1) := by decide +kernel
theorem d_MD_read_266 : decode M_MD_read.2.1 266 = .ok (.iconst 3, 1) := by decide +kernel
theorem d_MD_read_267 : decode M_MD_read.2.1 267 = .ok (.putfield 86, 3) := by decide +kernel
theorem d_MD_read_270 : decode M_MD_read.2.1 270 = .ok (.aload_n 0, 1) := by decide +kernel
theorem d_MD_read_271 : decode M_MD_read.2.1 271 = .ok (.iload_n 1, 1) := by decide +kernel
theorem d_MD_read_272 : decode M_MD_read.2.1 272 = .ok (.invokevirtual 104, 3) := by decide +kernel
theorem d_MD_read_275 : decode M_MD_read.2.1 275 = .ok (.return_, 1) := by decide +kernel
theorem k_MD_read : x_kV M_MD_read "QuestionReaderModel" 0 := ⟨⟨by decide, Or.inl ⟨w_1243, rfl⟩⟩, w_1242, ws_37, ⟨by decide, by decide⟩, by decide +kernel⟩
def M_MD_isName : x_M := (⟨"QuestionReaderModel", "isName", "(I)Z"⟩, prog_14_method_19_code, 4, some (.boolean), [])
theorem d_MD_isName_0 : decode M_MD_isName.2.1 0 = .ok (.aload_n 0, 1) := by decide +kernel
theorem d_MD_isName_1 : decode M_MD_isName.2.1 1 = .ok (.getfield 40, 3) := by decide +kernel
theorem d_MD_isName_4 : decode M_MD_isName.2.1 4 = .ok (.iload_n 1, 1) := by decide +kernel
theorem d_MD_isName_5 : decode M_MD_isName.2.1 5 = .ok (.iaload, 1) := by decide +kernel
theorem d_MD_isName_6 : decode M_MD_isName.2.1 6 = .ok (.aload_n 0, 1) := by decide +kernel
theorem d_MD_isName_7 : decode M_MD_isName.2.1 7 = .ok (.getfield 70, 3) := by decide +kernel
theorem d_MD_isName_10 : decode M_MD_isName.2.1 10 = .ok (.aload_n 0, 1) := by decide +kernel
theorem d_MD_isName_11 : decode M_MD_isName.2.1 11 = .ok (.getfield 77, 3) := by decide +kernel
theorem d_MD_isName_14 : decode M_MD_isName.2.1 14 = .ok (.isub, 1) := by decide +kernel
theorem d_MD_isName_15 : decode M_MD_isName.2.1 15 = .ok (.if_icmp .ne 7, 3) := by decide +kernel
theorem d_MD_isName_18 : decode M_MD_isName.2.1 18 = .ok (.iconst 1, 1) := by decide +kernel
theorem d_MD_isName_19 : decode M_MD_isName.2.1 19 = .ok (.goto 4, 3) := by decide +kernel
theorem d_MD_isName_22 : decode M_MD_isName.2.1 22 = .ok (.iconst 0, 1) := by decide +kernel
theorem d_MD_isName_23 : decode M_MD_isName.2.1 23 = .ok (.istore_n 2, 1) := by decide +kernel
theorem d_MD_isName_24 : decode M_MD_isName.2.1 24 = .ok (.iconst 0, 1) := by decide +kernel
theorem d_MD_isName_25 : decode M_MD_isName.2.1 25 = .ok (.istore_n 3, 1) := by decide +kernel
theorem d_MD_isName_26 : decode M_MD_isName.2.1 26 = .ok (.iload_n 3, 1) := by decide +kernel
theorem d_MD_isName_27 : decode M_MD_isName.2.1 27 = .ok (.aload_n 0, 1) := by decide +kernel
theorem d_MD_isName_28 : decode M_MD_isName.2.1 28 = .ok (.getfield 40, 3) := by decide +kernel
theorem d_MD_isName_31 : decode M_MD_isName.2.1 31 = .ok (.iload_n 1, 1) := by decide +kernel
theorem d_MD_isName_32 : decode M_MD_isName.2.1 32 = .ok (.iaload, 1) := by decide +kernel
theorem d_MD_isName_33 : decode M_MD_isName.2.1 33 = .ok (.if_icmp .ge 44, 3) := by decide +kernel
theorem d_MD_isName_36 : decode M_MD_isName.2.1 36 = .ok (.iload_n 2, 1) := by decide +kernel
theorem d_MD_isName_37 : decode M_MD_isName.2.1 37 = .ok (.ifCond .eq 40, 3) := by decide +kernel
theorem d_MD_isName_40 : decode M_MD_isName.2.1 40 = .ok (.aload_n 0, 1) := by decide +kernel
theorem d_MD_isName_41 : decode M_MD_isName.2.1 41 = .ok (.getfield 37, 3) := by decide +kernel
theorem d_MD_isName_44 : decode M_MD_isName.2.1 44 = .ok (.bipush 40, 2) := by decide +kernel
theorem d_MD_isName_46 : decode M_MD_isName.2.1 46 = .ok (.iload_n 1, 1) := by decide +kernel
theorem d_MD_isName_47 : decode M_MD_isName.2.1 47 = .ok (.imul, 1) := by decide +kernel
theorem d_MD_isName_48 : decode M_MD_isName.2.1 48 = .ok (.iload_n 3, 1) := by decide +kernel
theorem d_MD_isName_49 : decode M_MD_isName.2.1 49 = .ok (.iadd, 1) := by decide +kernel
theorem d_MD_isName_50 : decode M_MD_isName.2.1 50 = .ok (.baload, 1) := by decide +kernel
theorem d_MD_isName_51 : decode M_MD_isName.2.1 51 = .ok (.aload_n 0, 1) := by decide +kernel
theorem d_MD_isName_52 : decode M_MD_isName.2.1 52 = .ok (.getfield 16, 3) := by decide +kernel
theorem d_MD_isName_55 : decode M_MD_isName.2.1 55 = .ok (.aload_n 0, 1) := by decide +kernel
theorem d_MD_isName_56 : decode M_MD_isName.2.1 56 = .ok (.getfield 77, 3) := by decide +kernel
theorem d_MD_isName_59 : decode M_MD_isName.2.1 59 = .ok (.iload_n 3, 1) := by decide +kernel
theorem d_MD_isName_60 : decode M_MD_isName.2.1 60 = .ok (.iadd, 1) := by decide +kernel
theorem d_MD_isName_61 : decode M_MD_isName.2.1 61 = .ok (.baload, 1) := by decide +kernel
theorem d_MD_isName_62 : decode M_MD_isName.2.1 62 = .ok (.if_icmp .ne 7, 3) := by decide +kernel
theorem d_MD_isName_65 : decode M_MD_isName.2.1 65 = .ok (.iconst 1, 1) := by decide +kernel
theorem d_MD_isName_66 : decode M_MD_isName.2.1 66 = .ok (.goto 4, 3) := by decide +kernel
theorem d_MD_isName_69 : decode M_MD_isName.2.1 69 = .ok (.iconst 0, 1) := by decide +kernel
theorem d_MD_isName_70 : decode M_MD_isName.2.1 70 = .ok (.istore_n 2, 1) := by decide +kernel
theorem d_MD_isName_71 : decode M_MD_isName.2.1 71 = .ok (.iinc 3 1, 3) := by decide +kernel
theorem d_MD_isName_74 : decode M_MD_isName.2.1 74 = .ok (.goto (-48), 3) := by decide +kernel
theorem d_MD_isName_77 : decode M_MD_isName.2.1 77 = .ok (.iload_n 2, 1) := by decide +kernel
theorem d_MD_isName_78 : decode M_MD_isName.2.1 78 = .ok (.ireturn, 1) := by decide +kernel
theorem k_MD_isName : x_kV M_MD_isName "QuestionReaderModel" 1 := ⟨⟨by decide, Or.inl ⟨w_1354, rfl⟩⟩, w_1353, ws_50, ⟨by decide, by decide⟩, by decide +kernel⟩
def F_MD_thrown   (m : x_m) : Option (Int32 × x_m) := some (m.1 387 1, m)
theorem c_MD_thrown {G : x_G} {ex : Bool} {r : Int32 × x_m}   {m : x_m} (h : F_MD_thrown m = some r) : x_R G M_MD_thrown (x_rd 0) ex [.ref 387] x_np (x_hp m) (x_pi r) := by
  unfold F_MD_thrown at h
  show x_W G M_MD_thrown (x_rd 0) (x_Q G (x_rd 0) ex (x_pi r)) ex x_np (x_hp m) 0 0 [(0, .ref 387)] [] 0
  refine x_aload_n d_MD_thrown_0 rfl rfl ?_
  refine x_gI d_MD_thrown_1 (f_MD_57 rfl) sh_MD hp_MD rfl ?_
  cases h
  exact x_ri d_MD_thrown_4 rfl rfl
def F_MD_lay  (a1 : Int32) (m : x_m) : Option (x_m) := (if x_ix (m.1 387 4) 65536 = true then (if x_ix (((x_wA m 388 (m.1 387 4).toNatClampNeg (vp_nar .byte ((a1 >>> ((24 : Int32) &&& 31)).toInt8.toInt32))).1 387 4) + 1) 65536 = true then (if x_ix (((x_wA (x_wA m 388 (m.1 387 4).toNatClampNeg (vp_nar .byte ((a1 >>> ((24 : Int32) &&& 31)).toInt8.toInt32))) 388 (((x_wA m 388 (m.1 387 4).toNatClampNeg (vp_nar .byte ((a1 >>> ((24 : Int32) &&& 31)).toInt8.toInt32))).1 387 4) + 1).toNatClampNeg (vp_nar .byte ((a1 >>> ((16 : Int32) &&& 31)).toInt8.toInt32))).1 387 4) + 2) 65536 = true then (if x_ix (((x_wA (x_wA (x_wA m 388 (m.1 387 4).toNatClampNeg (vp_nar .byte ((a1 >>> ((24 : Int32) &&& 31)).toInt8.toInt32))) 388 (((x_wA m 388 (m.1 387 4).toNatClampNeg (vp_nar .byte ((a1 >>> ((24 : Int32) &&& 31)).toInt8.toInt32))).1 387 4) + 1).toNatClampNeg (vp_nar .byte ((a1 >>> ((16 : Int32) &&& 31)).toInt8.toInt32))) 388 (((x_wA (x_wA m 388 (m.1 387 4).toNatClampNeg (vp_nar .byte ((a1 >>> ((24 : Int32) &&& 31)).toInt8.toInt32))) 388 (((x_wA m 388 (m.1 387 4).toNatClampNeg (vp_nar .byte ((a1 >>> ((24 : Int32) &&& 31)).toInt8.toInt32))).1 387 4) + 1).toNatClampNeg (vp_nar .byte ((a1 >>> ((16 : Int32) &&& 31)).toInt8.toInt32))).1 387 4) + 2).toNatClampNeg (vp_nar .byte ((a1 >>> ((8 : Int32) &&& 31)).toInt8.toInt32))).1 387 4) + 3) 65536 = true then some (x_wS (x_wA (x_wA (x_wA (x_wA m 388 (m.1 387 4).toNatClampNeg (vp_nar .byte ((a1 >>> ((24 : Int32) &&& 31)).toInt8.toInt32))) 388 (((x_wA m 388 (m.1 387 4).toNatClampNeg (vp_nar .byte ((a1 >>> ((24 : Int32) &&& 31)).toInt8.toInt32))).1 387 4) + 1).toNatClampNeg (vp_nar .byte ((a1 >>> ((16 : Int32) &&& 31)).toInt8.toInt32))) 388 (((x_wA (x_wA m 388 (m.1 387 4).toNatClampNeg (vp_nar .byte ((a1 >>> ((24 : Int32) &&& 31)).toInt8.toInt32))) 388 (((x_wA m 388 (m.1 387 4).toNatClampNeg (vp_nar .byte ((a1 >>> ((24 : Int32) &&& 31)).toInt8.toInt32))).1 387 4) + 1).toNatClampNeg (vp_nar .byte ((a1 >>> ((16 : Int32) &&& 31)).toInt8.toInt32))).1 387 4) + 2).toNatClampNeg (vp_nar .byte ((a1 >>> ((8 : Int32) &&& 31)).toInt8.toInt32))) 388 (((x_wA (x_wA (x_wA m 388 (m.1 387 4).toNatClampNeg (vp_nar .byte ((a1 >>> ((24 : Int32) &&& 31)).toInt8.toInt32))) 388 (((x_wA m 388 (m.1 387 4).toNatClampNeg (vp_nar .byte ((a1 >>> ((24 : Int32) &&& 31)).toInt8.toInt32))).1 387 4) + 1).toNatClampNeg (vp_nar .byte ((a1 >>> ((16 : Int32) &&& 31)).toInt8.toInt32))) 388 (((x_wA (x_wA m 388 (m.1 387 4).toNatClampNeg (vp_nar .byte ((a1 >>> ((24 : Int32) &&& 31)).toInt8.toInt32))) 388 (((x_wA m 388 (m.1 387 4).toNatClampNeg (vp_nar .byte ((a1 >>> ((24 : Int32) &&& 31)).toInt8.toInt32))).1 387 4) + 1).toNatClampNeg (vp_nar .byte ((a1 >>> ((16 : Int32) &&& 31)).toInt8.toInt32))).1 387 4) + 2).toNatClampNeg (vp_nar .byte ((a1 >>> ((8 : Int32) &&& 31)).toInt8.toInt32))).1 387 4) + 3).toNatClampNeg (vp_nar .byte a1.toInt8.toInt32)) 387 4 (((x_wA (x_wA (x_wA (x_wA m 388 (m.1 387 4).toNatClampNeg (vp_nar .byte ((a1 >>> ((24 : Int32) &&& 31)).toInt8.toInt32))) 388 (((x_wA m 388 (m.1 387 4).toNatClampNeg (vp_nar .byte ((a1 >>> ((24 : Int32) &&& 31)).toInt8.toInt32))).1 387 4) + 1).toNatClampNeg (vp_nar .byte ((a1 >>> ((16 : Int32) &&& 31)).toInt8.toInt32))) 388 (((x_wA (x_wA m 388 (m.1 387 4).toNatClampNeg (vp_nar .byte ((a1 >>> ((24 : Int32) &&& 31)).toInt8.toInt32))) 388 (((x_wA m 388 (m.1 387 4).toNatClampNeg (vp_nar .byte ((a1 >>> ((24 : Int32) &&& 31)).toInt8.toInt32))).1 387 4) + 1).toNatClampNeg (vp_nar .byte ((a1 >>> ((16 : Int32) &&& 31)).toInt8.toInt32))).1 387 4) + 2).toNatClampNeg (vp_nar .byte ((a1 >>> ((8 : Int32) &&& 31)).toInt8.toInt32))) 388 (((x_wA (x_wA (x_wA m 388 (m.1 387 4).toNatClampNeg (vp_nar .byte ((a1 >>> ((24 : Int32) &&& 31)).toInt8.toInt32))) 388 (((x_wA m 388 (m.1 387 4).toNatClampNeg (vp_nar .byte ((a1 >>> ((24 : Int32) &&& 31)).toInt8.toInt32))).1 387 4) + 1).toNatClampNeg (vp_nar .byte ((a1 >>> ((16 : Int32) &&& 31)).toInt8.toInt32))) 388 (((x_wA (x_wA m 388 (m.1 387 4).toNatClampNeg (vp_nar .byte ((a1 >>> ((24 : Int32) &&& 31)).toInt8.toInt32))) 388 (((x_wA m 388 (m.1 387 4).toNatClampNeg (vp_nar .byte ((a1 >>> ((24 : Int32) &&& 31)).toInt8.toInt32))).1 387 4) + 1).toNatClampNeg (vp_nar .byte ((a1 >>> ((16 : Int32) &&& 31)).toInt8.toInt32))).1 387 4) + 2).toNatClampNeg (vp_nar .byte ((a1 >>> ((8 : Int32) &&& 31)).toInt8.toInt32))).1 387 4) + 3).toNatClampNeg (vp_nar .byte a1.toInt8.toInt32)).1 387 4) + 4)) else none) else none) else none) else none)
theorem c_MD_lay {G : x_G} {ex : Bool} {r : x_m}  {a1 : Int32} {m : x_m} (h : F_MD_lay a1 m = some r) : x_R G M_MD_lay (x_rd 0) ex [.ref 387, .int a1] x_np (x_hp m) (x_pv r) := by
  unfold F_MD_lay at h
  show x_W G M_MD_lay (x_rd 0) (x_Q G (x_rd 0) ex (x_pv r)) ex x_np (x_hp m) 0 0 [(0, .ref 387), (1, .int a1)] [] 0
  refine x_aload_n d_MD_lay_0 rfl rfl ?_
  refine x_gC d_MD_lay_1 (f_MD_16 rfl) sh_MD hp_MD rfl ?_
  refine x_aload_n d_MD_lay_4 rfl rfl ?_
  refine x_gI d_MD_lay_5 (f_MD_60 rfl) sh_MD hp_MD rfl ?_
  refine x_iload_n d_MD_lay_8 rfl rfl ?_
  refine x_bipush (v := 24) d_MD_lay_9 (by decide) ?_
  refine x_ishr d_MD_lay_11 ?_
  refine x_i2b d_MD_lay_12 ?_
  obtain ⟨g_13, h⟩ := x_gd h
  refine x_sB d_MD_lay_13 rfl sa_MD_text ha_MD_text g_13 ?_
  refine x_aload_n d_MD_lay_14 rfl rfl ?_
  refine x_gC d_MD_lay_15 (f_MD_16 rfl) sh_MD hp_MD rfl ?_
  refine x_aload_n d_MD_lay_18 rfl rfl ?_
  refine x_gI d_MD_lay_19 (f_MD_60 rfl) sh_MD hp_MD rfl ?_
  refine x_iconst (v := 1) d_MD_lay_22 (by decide) ?_
  refine x_iadd d_MD_lay_23 ?_
  refine x_iload_n d_MD_lay_24 rfl rfl ?_
  refine x_bipush (v := 16) d_MD_lay_25 (by decide) ?_
  refine x_ishr d_MD_lay_27 ?_
  refine x_i2b d_MD_lay_28 ?_
  obtain ⟨g_29, h⟩ := x_gd h
  refine x_sB d_MD_lay_29 rfl sa_MD_text ha_MD_text g_29 ?_
  refine x_aload_n d_MD_lay_30 rfl rfl ?_
  refine x_gC d_MD_lay_31 (f_MD_16 rfl) sh_MD hp_MD rfl ?_
  refine x_aload_n d_MD_lay_34 rfl rfl ?_
  refine x_gI d_MD_lay_35 (f_MD_60 rfl) sh_MD hp_MD rfl ?_
  refine x_iconst (v := 2) d_MD_lay_38 (by decide) ?_
  refine x_iadd d_MD_lay_39 ?_
  refine x_iload_n d_MD_lay_40 rfl rfl ?_
  refine x_bipush (v := 8) d_MD_lay_41 (by decide) ?_
  refine x_ishr d_MD_lay_43 ?_
  refine x_i2b d_MD_lay_44 ?_
  obtain ⟨g_45, h⟩ := x_gd h
  refine x_sB d_MD_lay_45 rfl sa_MD_text ha_MD_text g_45 ?_
  refine x_aload_n d_MD_lay_46 rfl rfl ?_
  refine x_gC d_MD_lay_47 (f_MD_16 rfl) sh_MD hp_MD rfl ?_
  refine x_aload_n d_MD_lay_50 rfl rfl ?_
  refine x_gI d_MD_lay_51 (f_MD_60 rfl) sh_MD hp_MD rfl ?_
  refine x_iconst (v := 3) d_MD_lay_54 (by decide) ?_
  refine x_iadd d_MD_lay_55 ?_
  refine x_iload_n d_MD_lay_56 rfl rfl ?_
  refine x_i2b d_MD_lay_57 ?_
  obtain ⟨g_58, h⟩ := x_gd h
  refine x_sB d_MD_lay_58 rfl sa_MD_text ha_MD_text g_58 ?_
  refine x_aload_n d_MD_lay_59 rfl rfl ?_
  refine x_dup d_MD_lay_60 rfl ?_
  refine x_gI d_MD_lay_61 (f_MD_60 rfl) sh_MD hp_MD rfl ?_
  refine x_iconst (v := 4) d_MD_lay_64 (by decide) ?_
  refine x_iadd d_MD_lay_65 ?_
  refine x_pI d_MD_lay_66 (f_MD_60 rfl) tb_MD rfl sh_MD hp_MD rfl ⟨rfl, rfl⟩ ?_
  cases h
  exact x_rv d_MD_lay_69 rfl
def B_MD_feed_18   (l1 : Int32) (l2 : Int32) (l3 : Int32) (l4 : Int32) (l5 : Int32) (s0 : Int32) (m : x_m) : Option (Int32 × x_m) := (if ((x_wS m 387 1 s0).1 387 1) ≤ 0 then ((F_MD_lay l1 (x_wS m 387 1 s0)).bind fun r32 => ((F_MD_lay l2 r32).bind fun r37 => ((F_MD_lay l3 r37).bind fun r42 => ((F_MD_lay l4 r42).bind fun r48 => ((F_MD_lay l5 r48).bind fun r54 => some (r54.1 387 4, r54)))))) else some (0, x_wS m 387 1 s0))
theorem b_MD_feed_18 {G : x_G} {ex : Bool} {r : Int32 × x_m}   {l1 : Int32} {l2 : Int32} {l3 : Int32} {l4 : Int32} {l5 : Int32} {s0 : Int32} {m : x_m} (h : B_MD_feed_18 l1 l2 l3 l4 l5 s0 m = some r) : x_W G M_MD_feed (x_rd 1) (x_Q G (x_rd 1) ex (x_pi r)) ex x_np (x_hp m) 0 0 [(0, .ref 387), (1, .int l1), (2, .int l2), (3, .int l3), (4, .int l4), (5, .int l5)] [.int s0, .ref 387] 18 := by
  unfold B_MD_feed_18 at h
  refine x_pI d_MD_feed_18 (f_MD_57 rfl) tb_MD rfl sh_MD hp_MD rfl ⟨rfl, rfl⟩ ?_
  refine x_aload_n d_MD_feed_21 rfl rfl ?_
  refine x_gI d_MD_feed_22 (f_MD_57 rfl) sh_MD hp_MD rfl ?_
  refine x_if_le (tgt := 30) d_MD_feed_25 (by decide) (fun c_ => ?_) (fun c_ => ?_)
  · replace h := x_it h c_
    refine x_aload_n d_MD_feed_30 rfl rfl ?_
    refine x_iload_n d_MD_feed_31 rfl rfl ?_
    obtain ⟨r32, e32, h⟩ := x_bd h
    refine x_cVv (M2 := M_MD_lay) (As := [.int l1]) (st := []) d_MD_feed_32 w_1228 k_MD_lay (c_MD_lay e32) rfl sh_MD hp_MD rfl ⟨Nat.le_of_ble_eq_true rfl, Nat.le_of_ble_eq_true rfl⟩ (Nat.le_of_ble_eq_true rfl) (Nat.le_of_ble_eq_true rfl) rfl ?_
    refine x_aload_n d_MD_feed_35 rfl rfl ?_
    refine x_iload_n d_MD_feed_36 rfl rfl ?_
    obtain ⟨r37, e37, h⟩ := x_bd h
    refine x_cVv (M2 := M_MD_lay) (As := [.int l2]) (st := []) d_MD_feed_37 w_1228 k_MD_lay (c_MD_lay e37) rfl sh_MD hp_MD rfl ⟨Nat.le_of_ble_eq_true rfl, Nat.le_of_ble_eq_true rfl⟩ (Nat.le_of_ble_eq_true rfl) (Nat.le_of_ble_eq_true rfl) rfl ?_
    refine x_aload_n d_MD_feed_40 rfl rfl ?_
    refine x_iload_n d_MD_feed_41 rfl rfl ?_
    obtain ⟨r42, e42, h⟩ := x_bd h
    refine x_cVv (M2 := M_MD_lay) (As := [.int l3]) (st := []) d_MD_feed_42 w_1228 k_MD_lay (c_MD_lay e42) rfl sh_MD hp_MD rfl ⟨Nat.le_of_ble_eq_true rfl, Nat.le_of_ble_eq_true rfl⟩ (Nat.le_of_ble_eq_true rfl) (Nat.le_of_ble_eq_true rfl) rfl ?_
    refine x_aload_n d_MD_feed_45 rfl rfl ?_
    refine x_iload d_MD_feed_46 rfl ?_
    obtain ⟨r48, e48, h⟩ := x_bd h
    refine x_cVv (M2 := M_MD_lay) (As := [.int l4]) (st := []) d_MD_feed_48 w_1228 k_MD_lay (c_MD_lay e48) rfl sh_MD hp_MD rfl ⟨Nat.le_of_ble_eq_true rfl, Nat.le_of_ble_eq_true rfl⟩ (Nat.le_of_ble_eq_true rfl) (Nat.le_of_ble_eq_true rfl) rfl ?_
    refine x_aload_n d_MD_feed_51 rfl rfl ?_
    refine x_iload d_MD_feed_52 rfl ?_
    obtain ⟨r54, e54, h⟩ := x_bd h
    refine x_cVv (M2 := M_MD_lay) (As := [.int l5]) (st := []) d_MD_feed_54 w_1228 k_MD_lay (c_MD_lay e54) rfl sh_MD hp_MD rfl ⟨Nat.le_of_ble_eq_true rfl, Nat.le_of_ble_eq_true rfl⟩ (Nat.le_of_ble_eq_true rfl) (Nat.le_of_ble_eq_true rfl) rfl ?_
    refine x_aload_n d_MD_feed_57 rfl rfl ?_
    refine x_gI d_MD_feed_58 (f_MD_60 rfl) sh_MD hp_MD rfl ?_
    cases h
    exact x_ri d_MD_feed_61 rfl rfl
  · replace h := x_ie h c_
    refine x_iconst (v := 0) d_MD_feed_28 (by decide) ?_
    cases h
    exact x_ri d_MD_feed_29 rfl rfl
def F_MD_feed  (a1 : Int32) (a2 : Int32) (a3 : Int32) (a4 : Int32) (a5 : Int32) (m : x_m) : Option (Int32 × x_m) := (if ((m.1 387 4) + 20) ≤ 65536 then B_MD_feed_18 a1 a2 a3 a4 a5 0 m else B_MD_feed_18 a1 a2 a3 a4 a5 1 m)
theorem c_MD_feed {G : x_G} {ex : Bool} {r : Int32 × x_m}  {a1 : Int32} {a2 : Int32} {a3 : Int32} {a4 : Int32} {a5 : Int32} {m : x_m} (h : F_MD_feed a1 a2 a3 a4 a5 m = some r) : x_R G M_MD_feed (x_rd 1) ex [.ref 387, .int a1, .int a2, .int a3, .int a4, .int a5] x_np (x_hp m) (x_pi r) := by
  unfold F_MD_feed at h
  show x_W G M_MD_feed (x_rd 1) (x_Q G (x_rd 1) ex (x_pi r)) ex x_np (x_hp m) 0 0 [(0, .ref 387), (1, .int a1), (2, .int a2), (3, .int a3), (4, .int a4), (5, .int a5)] [] 0
  refine x_aload_n d_MD_feed_0 rfl rfl ?_
  refine x_aload_n d_MD_feed_1 rfl rfl ?_
  refine x_gI d_MD_feed_2 (f_MD_60 rfl) sh_MD hp_MD rfl ?_
  refine x_bipush (v := 20) d_MD_feed_5 (by decide) ?_
  refine x_iadd d_MD_feed_7 ?_
  refine x_ldc (v := 65536) d_MD_feed_8 w_1060 ?_
  refine x_icmp_le (tgt := 17) d_MD_feed_10 (by decide) (fun c_ => ?_) (fun c_ => ?_)
  · replace h := x_it h c_
    refine x_iconst (v := 0) d_MD_feed_17 (by decide) ?_
    exact b_MD_feed_18 h
  · replace h := x_ie h c_
    refine x_iconst (v := 1) d_MD_feed_13 (by decide) ?_
    refine x_goto (tgt := 18) d_MD_feed_14 (by decide) ?_
    exact b_MD_feed_18 h
def B_MD_trim_24   (l1 : Int32) (s0 : Int32) (m : x_m) : Option (Int32 × x_m) := (if ((x_wS m 387 1 s0).1 387 1) ≤ 0 then some ((x_wS (x_wS m 387 1 s0) 387 4 (((x_wS m 387 1 s0).1 387 4) - l1)).1 387 4, x_wS (x_wS m 387 1 s0) 387 4 (((x_wS m 387 1 s0).1 387 4) - l1)) else some (0, x_wS m 387 1 s0))
theorem b_MD_trim_24 {G : x_G} {ex : Bool} {r : Int32 × x_m}   {l1 : Int32} {s0 : Int32} {m : x_m} (h : B_MD_trim_24 l1 s0 m = some r) : x_W G M_MD_trim (x_rd 0) (x_Q G (x_rd 0) ex (x_pi r)) ex x_np (x_hp m) 0 0 [(0, .ref 387), (1, .int l1)] [.int s0, .ref 387] 24 := by
  unfold B_MD_trim_24 at h
  refine x_pI d_MD_trim_24 (f_MD_57 rfl) tb_MD rfl sh_MD hp_MD rfl ⟨rfl, rfl⟩ ?_
  refine x_aload_n d_MD_trim_27 rfl rfl ?_
  refine x_gI d_MD_trim_28 (f_MD_57 rfl) sh_MD hp_MD rfl ?_
  refine x_if_le (tgt := 36) d_MD_trim_31 (by decide) (fun c_ => ?_) (fun c_ => ?_)
  · replace h := x_it h c_
    refine x_aload_n d_MD_trim_36 rfl rfl ?_
    refine x_dup d_MD_trim_37 rfl ?_
    refine x_gI d_MD_trim_38 (f_MD_60 rfl) sh_MD hp_MD rfl ?_
    refine x_iload_n d_MD_trim_41 rfl rfl ?_
    refine x_isub d_MD_trim_42 ?_
    refine x_pI d_MD_trim_43 (f_MD_60 rfl) tb_MD rfl sh_MD hp_MD rfl ⟨rfl, rfl⟩ ?_
    refine x_aload_n d_MD_trim_46 rfl rfl ?_
    refine x_gI d_MD_trim_47 (f_MD_60 rfl) sh_MD hp_MD rfl ?_
    cases h
    exact x_ri d_MD_trim_50 rfl rfl
  · replace h := x_ie h c_
    refine x_iconst (v := 0) d_MD_trim_34 (by decide) ?_
    cases h
    exact x_ri d_MD_trim_35 rfl rfl
def B_MD_trim_19   (l1 : Int32) (m : x_m) : Option (Int32 × x_m) := B_MD_trim_24 l1 1 m
theorem b_MD_trim_19 {G : x_G} {ex : Bool} {r : Int32 × x_m}   {l1 : Int32} {m : x_m} (h : B_MD_trim_19 l1 m = some r) : x_W G M_MD_trim (x_rd 0) (x_Q G (x_rd 0) ex (x_pi r)) ex x_np (x_hp m) 0 0 [(0, .ref 387), (1, .int l1)] [.ref 387] 19 := by
  unfold B_MD_trim_19 at h
  refine x_iconst (v := 1) d_MD_trim_19 (by decide) ?_
  refine x_goto (tgt := 24) d_MD_trim_20 (by decide) ?_
  exact b_MD_trim_24 h
def F_MD_trim  (a1 : Int32) (m : x_m) : Option (Int32 × x_m) := (if a1 < 0 then B_MD_trim_19 a1 m else (if 20 < a1 then B_MD_trim_19 a1 m else (if a1 ≤ (m.1 387 4) then B_MD_trim_24 a1 0 m else B_MD_trim_19 a1 m)))
theorem c_MD_trim {G : x_G} {ex : Bool} {r : Int32 × x_m}  {a1 : Int32} {m : x_m} (h : F_MD_trim a1 m = some r) : x_R G M_MD_trim (x_rd 0) ex [.ref 387, .int a1] x_np (x_hp m) (x_pi r) := by
  unfold F_MD_trim at h
  show x_W G M_MD_trim (x_rd 0) (x_Q G (x_rd 0) ex (x_pi r)) ex x_np (x_hp m) 0 0 [(0, .ref 387), (1, .int a1)] [] 0
  refine x_aload_n d_MD_trim_0 rfl rfl ?_
  refine x_iload_n d_MD_trim_1 rfl rfl ?_
  refine x_if_lt (tgt := 19) d_MD_trim_2 (by decide) (fun c_ => ?_) (fun c_ => ?_)
  · replace h := x_it h c_
    exact b_MD_trim_19 h
  · replace h := x_ie h c_
    refine x_iload_n d_MD_trim_5 rfl rfl ?_
    refine x_bipush (v := 20) d_MD_trim_6 (by decide) ?_
    refine x_icmp_gt (tgt := 19) d_MD_trim_8 (by decide) (fun c_ => ?_) (fun c_ => ?_)
    · replace h := x_it h c_
      exact b_MD_trim_19 h
    · replace h := x_ie h c_
      refine x_iload_n d_MD_trim_11 rfl rfl ?_
      refine x_aload_n d_MD_trim_12 rfl rfl ?_
      refine x_gI d_MD_trim_13 (f_MD_60 rfl) sh_MD hp_MD rfl ?_
      refine x_icmp_le (tgt := 23) d_MD_trim_16 (by decide) (fun c_ => ?_) (fun c_ => ?_)
      · replace h := x_it h c_
        refine x_iconst (v := 0) d_MD_trim_23 (by decide) ?_
        exact b_MD_trim_24 h
      · replace h := x_ie h c_
        exact b_MD_trim_19 h
def B_MD_isDigit_17   (s0 : Int32) (m : x_m) : Option (Int32 × x_m) := (if x_b1 s0 = true then some (s0, m) else none)
theorem b_MD_isDigit_17 {G : x_G} {ex : Bool} {r : Int32 × x_m}   {s0 : Int32} {m : x_m} (h : B_MD_isDigit_17 s0 m = some r) : x_W G M_MD_isDigit (x_rd 0) (x_Q G (x_rd 0) ex (x_pi r)) ex x_np (x_hp m) 0 0 [] [.int s0] 17 := by
  unfold B_MD_isDigit_17 at h
  obtain ⟨g_17, h⟩ := x_gd h
  cases h
  exact x_ri d_MD_isDigit_17 rfl (x_b1_ok g_17).1
def B_MD_isDigit_16    (m : x_m) : Option (Int32 × x_m) := B_MD_isDigit_17 0 m
theorem b_MD_isDigit_16 {G : x_G} {ex : Bool} {r : Int32 × x_m}    {m : x_m} (h : B_MD_isDigit_16 m = some r) : x_W G M_MD_isDigit (x_rd 0) (x_Q G (x_rd 0) ex (x_pi r)) ex x_np (x_hp m) 0 0 [] [] 16 := by
  unfold B_MD_isDigit_16 at h
  refine x_iconst (v := 0) d_MD_isDigit_16 (by decide) ?_
  exact b_MD_isDigit_17 h
def F_MD_isDigit  (a0 : Int32) (m : x_m) : Option (Int32 × x_m) := (if a0 < 48 then B_MD_isDigit_16 m else (if 57 < a0 then B_MD_isDigit_16 m else B_MD_isDigit_17 1 m))
theorem c_MD_isDigit {G : x_G} {ex : Bool} {r : Int32 × x_m}  {a0 : Int32} {m : x_m} (h : F_MD_isDigit a0 m = some r) : x_R G M_MD_isDigit (x_rd 0) ex [.int a0] x_np (x_hp m) (x_pi r) := by
  unfold F_MD_isDigit at h
  show x_W G M_MD_isDigit (x_rd 0) (x_Q G (x_rd 0) ex (x_pi r)) ex x_np (x_hp m) 0 0 [(0, .int a0)] [] 0
  refine x_iload_n d_MD_isDigit_0 rfl rfl ?_
  refine x_bipush (v := 48) d_MD_isDigit_1 (by decide) ?_
  refine x_icmp_lt (tgt := 16) d_MD_isDigit_3 (by decide) (fun c_ => ?_) (fun c_ => ?_)
  · replace h := x_it h c_
    refine x_sbk [] (lv2 := []) rfl ?_; exact b_MD_isDigit_16 h
  · replace h := x_ie h c_
    refine x_iload_n d_MD_isDigit_6 rfl rfl ?_
    refine x_bipush (v := 57) d_MD_isDigit_7 (by decide) ?_
    refine x_icmp_gt (tgt := 16) d_MD_isDigit_9 (by decide) (fun c_ => ?_) (fun c_ => ?_)
    · replace h := x_it h c_
      refine x_sbk [] (lv2 := []) rfl ?_; exact b_MD_isDigit_16 h
    · replace h := x_ie h c_
      refine x_iconst (v := 1) d_MD_isDigit_12 (by decide) ?_
      refine x_goto (tgt := 17) d_MD_isDigit_13 (by decide) ?_
      refine x_sbk [] (lv2 := []) rfl ?_; exact b_MD_isDigit_17 h
def B_MD_isLetter_29   (s0 : Int32) (m : x_m) : Option (Int32 × x_m) := (if x_b1 s0 = true then some (s0, m) else none)
theorem b_MD_isLetter_29 {G : x_G} {ex : Bool} {r : Int32 × x_m}   {s0 : Int32} {m : x_m} (h : B_MD_isLetter_29 s0 m = some r) : x_W G M_MD_isLetter (x_rd 0) (x_Q G (x_rd 0) ex (x_pi r)) ex x_np (x_hp m) 0 0 [] [.int s0] 29 := by
  unfold B_MD_isLetter_29 at h
  obtain ⟨g_29, h⟩ := x_gd h
  cases h
  exact x_ri d_MD_isLetter_29 rfl (x_b1_ok g_29).1
def B_MD_isLetter_28    (m : x_m) : Option (Int32 × x_m) := B_MD_isLetter_29 0 m
theorem b_MD_isLetter_28 {G : x_G} {ex : Bool} {r : Int32 × x_m}    {m : x_m} (h : B_MD_isLetter_28 m = some r) : x_W G M_MD_isLetter (x_rd 0) (x_Q G (x_rd 0) ex (x_pi r)) ex x_np (x_hp m) 0 0 [] [] 28 := by
  unfold B_MD_isLetter_28 at h
  refine x_iconst (v := 0) d_MD_isLetter_28 (by decide) ?_
  exact b_MD_isLetter_29 h
def B_MD_isLetter_24    (m : x_m) : Option (Int32 × x_m) := B_MD_isLetter_29 1 m
theorem b_MD_isLetter_24 {G : x_G} {ex : Bool} {r : Int32 × x_m}    {m : x_m} (h : B_MD_isLetter_24 m = some r) : x_W G M_MD_isLetter (x_rd 0) (x_Q G (x_rd 0) ex (x_pi r)) ex x_np (x_hp m) 0 0 [] [] 24 := by
  unfold B_MD_isLetter_24 at h
  refine x_iconst (v := 1) d_MD_isLetter_24 (by decide) ?_
  refine x_goto (tgt := 29) d_MD_isLetter_25 (by decide) ?_
  exact b_MD_isLetter_29 h
def B_MD_isLetter_12   (l0 : Int32) (m : x_m) : Option (Int32 × x_m) := (if l0 < 97 then B_MD_isLetter_28 m else (if 122 < l0 then B_MD_isLetter_28 m else B_MD_isLetter_24 m))
theorem b_MD_isLetter_12 {G : x_G} {ex : Bool} {r : Int32 × x_m}   {l0 : Int32} {m : x_m} (h : B_MD_isLetter_12 l0 m = some r) : x_W G M_MD_isLetter (x_rd 0) (x_Q G (x_rd 0) ex (x_pi r)) ex x_np (x_hp m) 0 0 [(0, .int l0)] [] 12 := by
  unfold B_MD_isLetter_12 at h
  refine x_iload_n d_MD_isLetter_12 rfl rfl ?_
  refine x_bipush (v := 97) d_MD_isLetter_13 (by decide) ?_
  refine x_icmp_lt (tgt := 28) d_MD_isLetter_15 (by decide) (fun c_ => ?_) (fun c_ => ?_)
  · replace h := x_it h c_
    refine x_sbk [] (lv2 := []) rfl ?_; exact b_MD_isLetter_28 h
  · replace h := x_ie h c_
    refine x_iload_n d_MD_isLetter_18 rfl rfl ?_
    refine x_bipush (v := 122) d_MD_isLetter_19 (by decide) ?_
    refine x_icmp_gt (tgt := 28) d_MD_isLetter_21 (by decide) (fun c_ => ?_) (fun c_ => ?_)
    · replace h := x_it h c_
      refine x_sbk [] (lv2 := []) rfl ?_; exact b_MD_isLetter_28 h
    · replace h := x_ie h c_
      refine x_sbk [] (lv2 := []) rfl ?_; exact b_MD_isLetter_24 h
def F_MD_isLetter  (a0 : Int32) (m : x_m) : Option (Int32 × x_m) := (if a0 < 65 then B_MD_isLetter_12 a0 m else (if a0 ≤ 90 then B_MD_isLetter_24 m else B_MD_isLetter_12 a0 m))
theorem c_MD_isLetter {G : x_G} {ex : Bool} {r : Int32 × x_m}  {a0 : Int32} {m : x_m} (h : F_MD_isLetter a0 m = some r) : x_R G M_MD_isLetter (x_rd 0) ex [.int a0] x_np (x_hp m) (x_pi r) := by
  unfold F_MD_isLetter at h
  show x_W G M_MD_isLetter (x_rd 0) (x_Q G (x_rd 0) ex (x_pi r)) ex x_np (x_hp m) 0 0 [(0, .int a0)] [] 0
  refine x_iload_n d_MD_isLetter_0 rfl rfl ?_
  refine x_bipush (v := 65) d_MD_isLetter_1 (by decide) ?_
  refine x_icmp_lt (tgt := 12) d_MD_isLetter_3 (by decide) (fun c_ => ?_) (fun c_ => ?_)
  · replace h := x_it h c_
    exact b_MD_isLetter_12 h
  · replace h := x_ie h c_
    refine x_iload_n d_MD_isLetter_6 rfl rfl ?_
    refine x_bipush (v := 90) d_MD_isLetter_7 (by decide) ?_
    refine x_icmp_le (tgt := 24) d_MD_isLetter_9 (by decide) (fun c_ => ?_) (fun c_ => ?_)
    · replace h := x_it h c_
      refine x_sbk [] (lv2 := []) rfl ?_; exact b_MD_isLetter_24 h
    · replace h := x_ie h c_
      exact b_MD_isLetter_12 h
def B_MD_look_22   (s0 : Int32) (m : x_m) : Option (Int32 × x_m) := some (s0, m)
theorem b_MD_look_22 {G : x_G} {ex : Bool} {r : Int32 × x_m}   {s0 : Int32} {m : x_m} (h : B_MD_look_22 s0 m = some r) : x_W G M_MD_look (x_rd 0) (x_Q G (x_rd 0) ex (x_pi r)) ex x_np (x_hp m) 0 0 [] [.int s0] 22 := by
  unfold B_MD_look_22 at h
  cases h
  exact x_ri d_MD_look_22 rfl rfl
def F_MD_look  (a1 : Int32) (m : x_m) : Option (Int32 × x_m) := (if (m.1 387 4) ≤ a1 then B_MD_look_22 0 m else (if x_ix a1 65536 = true then B_MD_look_22 ((m.2.1 388 a1.toNatClampNeg) &&& 255) m else none))
theorem c_MD_look {G : x_G} {ex : Bool} {r : Int32 × x_m}  {a1 : Int32} {m : x_m} (h : F_MD_look a1 m = some r) : x_R G M_MD_look (x_rd 0) ex [.ref 387, .int a1] x_np (x_hp m) (x_pi r) := by
  unfold F_MD_look at h
  show x_W G M_MD_look (x_rd 0) (x_Q G (x_rd 0) ex (x_pi r)) ex x_np (x_hp m) 0 0 [(0, .ref 387), (1, .int a1)] [] 0
  refine x_iload_n d_MD_look_0 rfl rfl ?_
  refine x_aload_n d_MD_look_1 rfl rfl ?_
  refine x_gI d_MD_look_2 (f_MD_60 rfl) sh_MD hp_MD rfl ?_
  refine x_icmp_ge (tgt := 21) d_MD_look_5 (by decide) (fun c_ => ?_) (fun c_ => ?_)
  · replace h := x_it h c_
    refine x_iconst (v := 0) d_MD_look_21 (by decide) ?_
    refine x_sbk [] (lv2 := []) rfl ?_; exact b_MD_look_22 h
  · replace h := x_ie h c_
    refine x_aload_n d_MD_look_8 rfl rfl ?_
    refine x_gC d_MD_look_9 (f_MD_16 rfl) sh_MD hp_MD rfl ?_
    refine x_iload_n d_MD_look_12 rfl rfl ?_
    obtain ⟨g_13, h⟩ := x_gd h
    refine x_lB d_MD_look_13 rfl sa_MD_text ha_MD_text g_13 ?_
    refine x_sipush (v := 255) d_MD_look_14 (by decide) ?_
    refine x_iand d_MD_look_17 ?_
    refine x_goto (tgt := 22) d_MD_look_18 (by decide) ?_
    refine x_sbk [] (lv2 := []) rfl ?_; exact b_MD_look_22 h
def B_MD_want_33   (s0 : Int32) (m : x_m) : Option (Int32 × x_m) := (if x_b1 s0 = true then some (s0, m) else none)
theorem b_MD_want_33 {G : x_G} {ex : Bool} {r : Int32 × x_m}   {s0 : Int32} {m : x_m} (h : B_MD_want_33 s0 m = some r) : x_W G M_MD_want (x_rd 0) (x_Q G (x_rd 0) ex (x_pi r)) ex x_np (x_hp m) 0 0 [] [.int s0] 33 := by
  unfold B_MD_want_33 at h
  obtain ⟨g_33, h⟩ := x_gd h
  cases h
  exact x_ri d_MD_want_33 rfl (x_b1_ok g_33).1
def B_MD_want_21    (m : x_m) : Option (Int32 × x_m) := (if (m.1 387 5) = 0 then B_MD_want_33 1 m else B_MD_want_33 0 m)
theorem b_MD_want_21 {G : x_G} {ex : Bool} {r : Int32 × x_m}    {m : x_m} (h : B_MD_want_21 m = some r) : x_W G M_MD_want (x_rd 0) (x_Q G (x_rd 0) ex (x_pi r)) ex x_np (x_hp m) 0 0 [(0, .ref 387)] [] 21 := by
  unfold B_MD_want_21 at h
  refine x_aload_n d_MD_want_21 rfl rfl ?_
  refine x_gI d_MD_want_22 (f_MD_67 rfl) sh_MD hp_MD rfl ?_
  refine x_if_ne (tgt := 32) d_MD_want_25 (by decide) (fun c_ => ?_) (fun c_ => ?_)
  · replace h := x_ie h c_
    refine x_iconst (v := 0) d_MD_want_32 (by decide) ?_
    refine x_sbk [] (lv2 := []) rfl ?_; exact b_MD_want_33 h
  · replace h := x_it h c_
    refine x_iconst (v := 1) d_MD_want_28 (by decide) ?_
    refine x_goto (tgt := 33) d_MD_want_29 (by decide) ?_
    refine x_sbk [] (lv2 := []) rfl ?_; exact b_MD_want_33 h
def F_MD_want  (a1 : Int32) (a2 : Int32) (a3 : Int32) (m : x_m) : Option (Int32 × x_m) := (if (m.1 387 5) = 0 then (if a1 = 0 then B_MD_want_21 (x_wS (x_wS m 387 5 a2) 387 6 a3) else B_MD_want_21 m) else B_MD_want_21 m)
theorem c_MD_want {G : x_G} {ex : Bool} {r : Int32 × x_m}  {a1 : Int32} {a2 : Int32} {a3 : Int32} {m : x_m} (h : F_MD_want a1 a2 a3 m = some r) : x_R G M_MD_want (x_rd 0) ex [.ref 387, .int a1, .int a2, .int a3] x_np (x_hp m) (x_pi r) := by
  unfold F_MD_want at h
  show x_W G M_MD_want (x_rd 0) (x_Q G (x_rd 0) ex (x_pi r)) ex x_np (x_hp m) 0 0 [(0, .ref 387), (1, .int a1), (2, .int a2), (3, .int a3)] [] 0
  refine x_aload_n d_MD_want_0 rfl rfl ?_
  refine x_gI d_MD_want_1 (f_MD_67 rfl) sh_MD hp_MD rfl ?_
  refine x_if_ne (tgt := 21) d_MD_want_4 (by decide) (fun c_ => ?_) (fun c_ => ?_)
  · replace h := x_ie h c_
    refine x_sbk [0] (lv2 := [(0, .ref 387)]) rfl ?_; exact b_MD_want_21 h
  · replace h := x_it h c_
    refine x_iload_n d_MD_want_7 rfl rfl ?_
    refine x_if_ne (tgt := 21) d_MD_want_8 (by decide) (fun c_ => ?_) (fun c_ => ?_)
    · replace h := x_ie h c_
      refine x_sbk [0] (lv2 := [(0, .ref 387)]) rfl ?_; exact b_MD_want_21 h
    · replace h := x_it h c_
      refine x_aload_n d_MD_want_11 rfl rfl ?_
      refine x_iload_n d_MD_want_12 rfl rfl ?_
      refine x_pI d_MD_want_13 (f_MD_67 rfl) tb_MD rfl sh_MD hp_MD rfl ⟨rfl, rfl⟩ ?_
      refine x_aload_n d_MD_want_16 rfl rfl ?_
      refine x_iload_n d_MD_want_17 rfl rfl ?_
      refine x_pI d_MD_want_18 (f_MD_20 rfl) tb_MD rfl sh_MD hp_MD rfl ⟨rfl, rfl⟩ ?_
      refine x_sbk [0] (lv2 := [(0, .ref 387)]) rfl ?_; exact b_MD_want_21 h
def B_MD_readNumber_145    (m : x_m) : Option (x_m) := some m
theorem b_MD_readNumber_145 {G : x_G} {ex : Bool} {r : x_m}    {m : x_m} (h : B_MD_readNumber_145 m = some r) : x_W G M_MD_readNumber (x_rd 1) (x_Q G (x_rd 1) ex (x_pv r)) ex x_np (x_hp m) 0 0 [] [] 145 := by
  unfold B_MD_readNumber_145 at h
  cases h
  exact x_rv d_MD_readNumber_145 rfl
def B_MD_readNumber_128   (l2 : Int64) (s0 : Int32) (m : x_m) : Option (x_m) := ((F_MD_want s0 2 (m.1 387 8) m).bind fun r133 => (if r133.1 = 0 then B_MD_readNumber_145 r133.2 else B_MD_readNumber_145 (x_wS r133.2 387 11 l2.toInt32)))
theorem b_MD_readNumber_128 {G : x_G} {ex : Bool} {r : x_m}   {l2 : Int64} {s0 : Int32} {m : x_m} (h : B_MD_readNumber_128 l2 s0 m = some r) : x_W G M_MD_readNumber (x_rd 1) (x_Q G (x_rd 1) ex (x_pv r)) ex x_np (x_hp m) 0 0 [(0, .ref 387), (2, .long l2)] [.int s0, .ref 387] 128 := by
  unfold B_MD_readNumber_128 at h
  refine x_iconst (v := 2) d_MD_readNumber_128 (by decide) ?_
  refine x_aload_n d_MD_readNumber_129 rfl rfl ?_
  refine x_gI d_MD_readNumber_130 (f_MD_77 rfl) sh_MD hp_MD rfl ?_
  obtain ⟨r133, e133, h⟩ := x_bd h
  refine x_cVi (M2 := M_MD_want) (As := [.int s0, .int 2, .int (m.1 387 8)]) (st := []) d_MD_readNumber_133 w_1315 k_MD_want (c_MD_want e133) rfl sh_MD hp_MD rfl ⟨Nat.le_of_ble_eq_true rfl, Nat.le_of_ble_eq_true rfl⟩ (Nat.le_of_ble_eq_true rfl) (Nat.le_of_ble_eq_true rfl) rfl ?_
  refine x_if_eq (tgt := 145) d_MD_readNumber_136 (by decide) (fun c_ => ?_) (fun c_ => ?_)
  · replace h := x_it h c_
    refine x_sbk [] (lv2 := []) rfl ?_; exact b_MD_readNumber_145 h
  · replace h := x_ie h c_
    refine x_aload_n d_MD_readNumber_139 rfl rfl ?_
    refine x_lload_n d_MD_readNumber_140 rfl rfl ?_
    refine x_l2i d_MD_readNumber_141 ?_
    refine x_pI d_MD_readNumber_142 (f_MD_121 rfl) tb_MD rfl sh_MD hp_MD rfl ⟨rfl, rfl⟩ ?_
    refine x_sbk [] (lv2 := []) rfl ?_; exact b_MD_readNumber_145 h
def B_MD_readNumber_127   (l2 : Int64) (m : x_m) : Option (x_m) := B_MD_readNumber_128 l2 0 m
theorem b_MD_readNumber_127 {G : x_G} {ex : Bool} {r : x_m}   {l2 : Int64} {m : x_m} (h : B_MD_readNumber_127 l2 m = some r) : x_W G M_MD_readNumber (x_rd 1) (x_Q G (x_rd 1) ex (x_pv r)) ex x_np (x_hp m) 0 0 [(0, .ref 387), (2, .long l2)] [.ref 387] 127 := by
  unfold B_MD_readNumber_127 at h
  refine x_iconst (v := 0) d_MD_readNumber_127 (by decide) ?_
  exact b_MD_readNumber_128 h
def B_MD_readNumber_105   (s0 : Int64) (m : x_m) : Option (x_m) := (if (lg_cmp s0 ((-2147483648))) < 0 then B_MD_readNumber_127 s0 m else (if 0 < (lg_cmp s0 2147483647) then B_MD_readNumber_127 s0 m else B_MD_readNumber_128 s0 1 m))
theorem b_MD_readNumber_105 {G : x_G} {ex : Bool} {r : x_m}   {s0 : Int64} {m : x_m} (h : B_MD_readNumber_105 s0 m = some r) : x_W G M_MD_readNumber (x_rd 1) (x_Q G (x_rd 1) ex (x_pv r)) ex x_np (x_hp m) 0 0 [(0, .ref 387)] [.long s0] 105 := by
  unfold B_MD_readNumber_105 at h
  refine x_lstore_n (lv2 := [(0, .ref 387), (2, .long s0)]) d_MD_readNumber_105 rfl (by decide) rfl ?_
  refine x_aload_n d_MD_readNumber_106 rfl rfl ?_
  refine x_lload_n d_MD_readNumber_107 rfl rfl ?_
  refine x_ldc2 (v := (-2147483648)) d_MD_readNumber_108 w_1313 ?_
  refine x_lcmp d_MD_readNumber_111 ?_
  refine x_if_lt (tgt := 127) d_MD_readNumber_112 (by decide) (fun c_ => ?_) (fun c_ => ?_)
  · replace h := x_it h c_
    exact b_MD_readNumber_127 h
  · replace h := x_ie h c_
    refine x_lload_n d_MD_readNumber_115 rfl rfl ?_
    refine x_ldc2 (v := 2147483647) d_MD_readNumber_116 w_1314 ?_
    refine x_lcmp d_MD_readNumber_119 ?_
    refine x_if_gt (tgt := 127) d_MD_readNumber_120 (by decide) (fun c_ => ?_) (fun c_ => ?_)
    · replace h := x_it h c_
      exact b_MD_readNumber_127 h
    · replace h := x_ie h c_
      refine x_iconst (v := 1) d_MD_readNumber_123 (by decide) ?_
      refine x_goto (tgt := 128) d_MD_readNumber_124 (by decide) ?_
      exact b_MD_readNumber_128 h
def B_MD_readNumber_95   (l1 : Int32) (l2 : Int64) (m : x_m) : Option (x_m) := (if l1 = 0 then B_MD_readNumber_105 l2 m else B_MD_readNumber_105 (-l2) m)
theorem b_MD_readNumber_95 {G : x_G} {ex : Bool} {r : x_m}   {l1 : Int32} {l2 : Int64} {m : x_m} (h : B_MD_readNumber_95 l1 l2 m = some r) : x_W G M_MD_readNumber (x_rd 1) (x_Q G (x_rd 1) ex (x_pv r)) ex x_np (x_hp m) 0 0 [(0, .ref 387), (1, .int l1), (2, .long l2)] [] 95 := by
  unfold B_MD_readNumber_95 at h
  refine x_iload_n d_MD_readNumber_95 rfl rfl ?_
  refine x_if_eq (tgt := 104) d_MD_readNumber_96 (by decide) (fun c_ => ?_) (fun c_ => ?_)
  · replace h := x_it h c_
    refine x_lload_n d_MD_readNumber_104 rfl rfl ?_
    refine x_sbk [0] (lv2 := [(0, .ref 387)]) rfl ?_; exact b_MD_readNumber_105 h
  · replace h := x_ie h c_
    refine x_lload_n d_MD_readNumber_99 rfl rfl ?_
    refine x_lneg d_MD_readNumber_100 ?_
    refine x_goto (tgt := 105) d_MD_readNumber_101 (by decide) ?_
    refine x_sbk [0] (lv2 := [(0, .ref 387)]) rfl ?_; exact b_MD_readNumber_105 h
def B_MD_readNumber_81  (K25 : Int32 → Int64 → x_m → Option (x_m)) (l1 : Int32) (s0 : Int64) (m : x_m) : Option (x_m) := K25 l1 s0 (x_wS m 387 7 ((m.1 387 7) + 1))
theorem b_MD_readNumber_81 {G : x_G} {ex : Bool} {r : x_m}  {K25 : Int32 → Int64 → x_m → Option (x_m)} (hK25 : ∀ (l1 : Int32) (l2 : Int64) (m : x_m), K25 l1 l2 m = some r → x_W G M_MD_readNumber (x_rd 1) (x_Q G (x_rd 1) ex (x_pv r)) ex x_np (x_hp m) 0 0 [(0, .ref 387), (1, .int l1), (2, .long l2)] [] 25) {l1 : Int32} {s0 : Int64} {m : x_m} (h : B_MD_readNumber_81 K25 l1 s0 m = some r) : x_W G M_MD_readNumber (x_rd 1) (x_Q G (x_rd 1) ex (x_pv r)) ex x_np (x_hp m) 0 0 [(0, .ref 387), (1, .int l1)] [.long s0] 81 := by
  unfold B_MD_readNumber_81 at h
  refine x_lstore_n (lv2 := [(0, .ref 387), (1, .int l1), (2, .long s0)]) d_MD_readNumber_81 rfl (by decide) rfl ?_
  refine x_aload_n d_MD_readNumber_82 rfl rfl ?_
  refine x_dup d_MD_readNumber_83 rfl ?_
  refine x_gI d_MD_readNumber_84 (f_MD_70 rfl) sh_MD hp_MD rfl ?_
  refine x_iconst (v := 1) d_MD_readNumber_87 (by decide) ?_
  refine x_iadd d_MD_readNumber_88 ?_
  refine x_pI d_MD_readNumber_89 (f_MD_70 rfl) tb_MD rfl sh_MD hp_MD rfl ⟨rfl, rfl⟩ ?_
  refine x_goto (tgt := 25) d_MD_readNumber_92 (by decide) ?_
  exact hK25 _ _ _ h
def B_MD_readNumber_25   : Nat → Int32 → Int64 → x_m → Option (x_m)
  | 0, _, _, _ => none
  | f_ + 1, l1, l2, m => (if (m.1 387 4) ≤ (m.1 387 7) then B_MD_readNumber_95 l1 l2 m else ((F_MD_look (m.1 387 7) m).bind fun r41 => ((F_MD_isDigit r41.1 r41.2).bind fun r44 => (if r44.1 = 0 then B_MD_readNumber_95 l1 l2 r44.2 else (if (lg_cmp l2 3000000000) ≤ 0 then ((F_MD_look (r44.2.1 387 7) r44.2).bind fun r72 => B_MD_readNumber_81 (B_MD_readNumber_25 f_) l1 (((10 * l2) + r72.1.toInt64) - 48) r72.2) else B_MD_readNumber_81 (B_MD_readNumber_25 f_) l1 l2 r44.2)))))
theorem b_MD_readNumber_25 {G : x_G} {ex : Bool} {r : x_m}   : ∀ (f_ : Nat) (l1 : Int32) (l2 : Int64) (m : x_m), B_MD_readNumber_25 f_ l1 l2 m = some r → x_W G M_MD_readNumber (x_rd 1) (x_Q G (x_rd 1) ex (x_pv r)) ex x_np (x_hp m) 0 0 [(0, .ref 387), (1, .int l1), (2, .long l2)] [] 25 := by
  intro f_
  induction f_ with
  | zero => intro l1 l2 m h; exact nomatch h
  | succ f_ ih =>
    intro l1 l2 m h
    rw [B_MD_readNumber_25] at h
    have hK25 := ih
    refine x_aload_n d_MD_readNumber_25 rfl rfl ?_
    refine x_gI d_MD_readNumber_26 (f_MD_70 rfl) sh_MD hp_MD rfl ?_
    refine x_aload_n d_MD_readNumber_29 rfl rfl ?_
    refine x_gI d_MD_readNumber_30 (f_MD_60 rfl) sh_MD hp_MD rfl ?_
    refine x_icmp_ge (tgt := 95) d_MD_readNumber_33 (by decide) (fun c_ => ?_) (fun c_ => ?_)
    · replace h := x_it h c_
      exact b_MD_readNumber_95 h
    · replace h := x_ie h c_
      refine x_aload_n d_MD_readNumber_36 rfl rfl ?_
      refine x_aload_n d_MD_readNumber_37 rfl rfl ?_
      refine x_gI d_MD_readNumber_38 (f_MD_70 rfl) sh_MD hp_MD rfl ?_
      obtain ⟨r41, e41, h⟩ := x_bd h
      refine x_cVi (M2 := M_MD_look) (As := [.int (m.1 387 7)]) (st := []) d_MD_readNumber_41 w_1244 k_MD_look (c_MD_look e41) rfl sh_MD hp_MD rfl ⟨Nat.le_of_ble_eq_true rfl, Nat.le_of_ble_eq_true rfl⟩ (Nat.le_of_ble_eq_true rfl) (Nat.le_of_ble_eq_true rfl) rfl ?_
      obtain ⟨r44, e44, h⟩ := x_bd h
      refine x_cSi (M2 := M_MD_isDigit) (As := [.int r41.1]) (st := []) d_MD_readNumber_44 w_1251 k_MD_isDigit (c_MD_isDigit e44) rfl ⟨Nat.le_of_ble_eq_true rfl, Nat.le_of_ble_eq_true rfl⟩ (Nat.le_of_ble_eq_true rfl) (Nat.le_of_ble_eq_true rfl) rfl ?_
      refine x_if_eq (tgt := 95) d_MD_readNumber_47 (by decide) (fun c_ => ?_) (fun c_ => ?_)
      · replace h := x_it h c_
        exact b_MD_readNumber_95 h
      · replace h := x_ie h c_
        refine x_lload_n d_MD_readNumber_50 rfl rfl ?_
        refine x_ldc2 (v := 3000000000) d_MD_readNumber_51 w_1310 ?_
        refine x_lcmp d_MD_readNumber_54 ?_
        refine x_if_le (tgt := 62) d_MD_readNumber_55 (by decide) (fun c_ => ?_) (fun c_ => ?_)
        · replace h := x_it h c_
          refine x_ldc2 (v := 10) d_MD_readNumber_62 w_1311 ?_
          refine x_lload_n d_MD_readNumber_65 rfl rfl ?_
          refine x_lmul d_MD_readNumber_66 ?_
          refine x_aload_n d_MD_readNumber_67 rfl rfl ?_
          refine x_aload_n d_MD_readNumber_68 rfl rfl ?_
          refine x_gI d_MD_readNumber_69 (f_MD_70 rfl) sh_MD hp_MD rfl ?_
          obtain ⟨r72, e72, h⟩ := x_bd h
          refine x_cVi (M2 := M_MD_look) (As := [.int (r44.2.1 387 7)]) (st := [.long (10 * l2)]) d_MD_readNumber_72 w_1244 k_MD_look (c_MD_look e72) rfl sh_MD hp_MD rfl ⟨Nat.le_of_ble_eq_true rfl, Nat.le_of_ble_eq_true rfl⟩ (Nat.le_of_ble_eq_true rfl) (Nat.le_of_ble_eq_true rfl) rfl ?_
          refine x_i2l d_MD_readNumber_75 ?_
          refine x_ladd d_MD_readNumber_76 ?_
          refine x_ldc2 (v := 48) d_MD_readNumber_77 w_1312 ?_
          refine x_lsub d_MD_readNumber_80 ?_
          refine x_sbk [0, 1] (lv2 := [(0, .ref 387), (1, .int l1)]) rfl ?_; exact b_MD_readNumber_81 hK25 h
        · replace h := x_ie h c_
          refine x_lload_n d_MD_readNumber_58 rfl rfl ?_
          refine x_goto (tgt := 81) d_MD_readNumber_59 (by decide) ?_
          refine x_sbk [0, 1] (lv2 := [(0, .ref 387), (1, .int l1)]) rfl ?_; exact b_MD_readNumber_81 hK25 h
def B_MD_readNumber_19   (l1 : Int32) (s0 : Int32) (s1 : Int32) (m : x_m) : Option (x_m) := B_MD_readNumber_25 x_fu l1 0 (x_wS m 387 7 (s1 + s0))
theorem b_MD_readNumber_19 {G : x_G} {ex : Bool} {r : x_m}   {l1 : Int32} {s0 : Int32} {s1 : Int32} {m : x_m} (h : B_MD_readNumber_19 l1 s0 s1 m = some r) : x_W G M_MD_readNumber (x_rd 1) (x_Q G (x_rd 1) ex (x_pv r)) ex x_np (x_hp m) 0 0 [(0, .ref 387), (1, .int l1)] [.int s0, .int s1, .ref 387] 19 := by
  unfold B_MD_readNumber_19 at h
  refine x_iadd d_MD_readNumber_19 ?_
  refine x_pI d_MD_readNumber_20 (f_MD_70 rfl) tb_MD rfl sh_MD hp_MD rfl ⟨rfl, rfl⟩ ?_
  refine x_lconst (v := 0) d_MD_readNumber_23 (by decide) ?_
  refine x_lstore_n (lv2 := [(0, .ref 387), (1, .int l1), (2, .long 0)]) d_MD_readNumber_24 rfl (by decide) rfl ?_
  exact b_MD_readNumber_25 _ _ _ _ h
def F_MD_readNumber  (a1 : Int32) (m : x_m) : Option (x_m) := (if a1 = 0 then B_MD_readNumber_19 a1 0 ((x_wS m 387 9 2).1 387 7) (x_wS m 387 9 2) else B_MD_readNumber_19 a1 1 ((x_wS m 387 9 2).1 387 7) (x_wS m 387 9 2))
theorem c_MD_readNumber {G : x_G} {ex : Bool} {r : x_m}  {a1 : Int32} {m : x_m} (h : F_MD_readNumber a1 m = some r) : x_R G M_MD_readNumber (x_rd 1) ex [.ref 387, .int a1] x_np (x_hp m) (x_pv r) := by
  unfold F_MD_readNumber at h
  show x_W G M_MD_readNumber (x_rd 1) (x_Q G (x_rd 1) ex (x_pv r)) ex x_np (x_hp m) 0 0 [(0, .ref 387), (1, .int a1)] [] 0
  refine x_aload_n d_MD_readNumber_0 rfl rfl ?_
  refine x_iconst (v := 2) d_MD_readNumber_1 (by decide) ?_
  refine x_pI d_MD_readNumber_2 (f_MD_86 rfl) tb_MD rfl sh_MD hp_MD rfl ⟨rfl, rfl⟩ ?_
  refine x_aload_n d_MD_readNumber_5 rfl rfl ?_
  refine x_dup d_MD_readNumber_6 rfl ?_
  refine x_gI d_MD_readNumber_7 (f_MD_70 rfl) sh_MD hp_MD rfl ?_
  refine x_iload_n d_MD_readNumber_10 rfl rfl ?_
  refine x_if_eq (tgt := 18) d_MD_readNumber_11 (by decide) (fun c_ => ?_) (fun c_ => ?_)
  · replace h := x_it h c_
    refine x_iconst (v := 0) d_MD_readNumber_18 (by decide) ?_
    exact b_MD_readNumber_19 h
  · replace h := x_ie h c_
    refine x_iconst (v := 1) d_MD_readNumber_14 (by decide) ?_
    refine x_goto (tgt := 19) d_MD_readNumber_15 (by decide) ?_
    exact b_MD_readNumber_19 h
def B_MD_readSign_159    (m : x_m) : Option (x_m) := some m
theorem b_MD_readSign_159 {G : x_G} {ex : Bool} {r : x_m}    {m : x_m} (h : B_MD_readSign_159 m = some r) : x_W G M_MD_readSign (x_rd 1) (x_Q G (x_rd 1) ex (x_pv r)) ex x_np (x_hp m) 0 0 [] [] 159 := by
  unfold B_MD_readSign_159 at h
  cases h
  exact x_rv d_MD_readSign_159 rfl
def B_MD_readSign_155   (s0 : Int32) (s1 : Int32) (m : x_m) : Option (x_m) := B_MD_readSign_159 (x_wS m 387 7 (s1 + s0))
theorem b_MD_readSign_155 {G : x_G} {ex : Bool} {r : x_m}   {s0 : Int32} {s1 : Int32} {m : x_m} (h : B_MD_readSign_155 s0 s1 m = some r) : x_W G M_MD_readSign (x_rd 1) (x_Q G (x_rd 1) ex (x_pv r)) ex x_np (x_hp m) 0 0 [] [.int s0, .int s1, .ref 387] 155 := by
  unfold B_MD_readSign_155 at h
  refine x_iadd d_MD_readSign_155 ?_
  refine x_pI d_MD_readSign_156 (f_MD_70 rfl) tb_MD rfl sh_MD hp_MD rfl ⟨rfl, rfl⟩ ?_
  exact b_MD_readSign_159 h
def B_MD_readSign_138   (l3 : Int32) (s0 : Int32) (m : x_m) : Option (x_m) := (if l3 = 0 then B_MD_readSign_155 1 ((x_wS m 387 12 s0).1 387 7) (x_wS m 387 12 s0) else B_MD_readSign_155 2 ((x_wS m 387 12 s0).1 387 7) (x_wS m 387 12 s0))
theorem b_MD_readSign_138 {G : x_G} {ex : Bool} {r : x_m}   {l3 : Int32} {s0 : Int32} {m : x_m} (h : B_MD_readSign_138 l3 s0 m = some r) : x_W G M_MD_readSign (x_rd 1) (x_Q G (x_rd 1) ex (x_pv r)) ex x_np (x_hp m) 0 0 [(0, .ref 387), (3, .int l3)] [.int s0, .ref 387] 138 := by
  unfold B_MD_readSign_138 at h
  refine x_pI d_MD_readSign_138 (f_MD_83 rfl) tb_MD rfl sh_MD hp_MD rfl ⟨rfl, rfl⟩ ?_
  refine x_aload_n d_MD_readSign_141 rfl rfl ?_
  refine x_dup d_MD_readSign_142 rfl ?_
  refine x_gI d_MD_readSign_143 (f_MD_70 rfl) sh_MD hp_MD rfl ?_
  refine x_iload_n d_MD_readSign_146 rfl rfl ?_
  refine x_if_eq (tgt := 154) d_MD_readSign_147 (by decide) (fun c_ => ?_) (fun c_ => ?_)
  · replace h := x_it h c_
    refine x_iconst (v := 1) d_MD_readSign_154 (by decide) ?_
    refine x_sbk [] (lv2 := []) rfl ?_; exact b_MD_readSign_155 h
  · replace h := x_ie h c_
    refine x_iconst (v := 2) d_MD_readSign_150 (by decide) ?_
    refine x_goto (tgt := 155) d_MD_readSign_151 (by decide) ?_
    refine x_sbk [] (lv2 := []) rfl ?_; exact b_MD_readSign_155 h
def B_MD_readSign_106   (l1 : Int32) (l2 : Int32) (l3 : Int32) (s0 : Int32) (m : x_m) : Option (x_m) := ((F_MD_want s0 1 (m.1 387 8) m).bind fun r116 => (if r116.1 = 0 then B_MD_readSign_159 r116.2 else (if l3 = 0 then B_MD_readSign_138 l3 l1 r116.2 else B_MD_readSign_138 l3 ((256 * l1) + l2) r116.2)))
theorem b_MD_readSign_106 {G : x_G} {ex : Bool} {r : x_m}   {l1 : Int32} {l2 : Int32} {l3 : Int32} {s0 : Int32} {m : x_m} (h : B_MD_readSign_106 l1 l2 l3 s0 m = some r) : x_W G M_MD_readSign (x_rd 1) (x_Q G (x_rd 1) ex (x_pv r)) ex x_np (x_hp m) 0 0 [(0, .ref 387), (1, .int l1), (2, .int l2), (3, .int l3)] [.int s0] 106 := by
  unfold B_MD_readSign_106 at h
  refine x_istore (lv2 := [(0, .ref 387), (1, .int l1), (2, .int l2), (3, .int l3), (4, .int s0)]) d_MD_readSign_106 (by decide) rfl ?_
  refine x_aload_n d_MD_readSign_108 rfl rfl ?_
  refine x_iload d_MD_readSign_109 rfl ?_
  refine x_iconst (v := 1) d_MD_readSign_111 (by decide) ?_
  refine x_aload_n d_MD_readSign_112 rfl rfl ?_
  refine x_gI d_MD_readSign_113 (f_MD_77 rfl) sh_MD hp_MD rfl ?_
  obtain ⟨r116, e116, h⟩ := x_bd h
  refine x_cVi (M2 := M_MD_want) (As := [.int s0, .int 1, .int (m.1 387 8)]) (st := []) d_MD_readSign_116 w_1315 k_MD_want (c_MD_want e116) rfl sh_MD hp_MD rfl ⟨Nat.le_of_ble_eq_true rfl, Nat.le_of_ble_eq_true rfl⟩ (Nat.le_of_ble_eq_true rfl) (Nat.le_of_ble_eq_true rfl) rfl ?_
  refine x_if_eq (tgt := 159) d_MD_readSign_119 (by decide) (fun c_ => ?_) (fun c_ => ?_)
  · replace h := x_it h c_
    refine x_sbk [] (lv2 := []) rfl ?_; exact b_MD_readSign_159 h
  · replace h := x_ie h c_
    refine x_aload_n d_MD_readSign_122 rfl rfl ?_
    refine x_iload_n d_MD_readSign_123 rfl rfl ?_
    refine x_if_eq (tgt := 137) d_MD_readSign_124 (by decide) (fun c_ => ?_) (fun c_ => ?_)
    · replace h := x_it h c_
      refine x_iload_n d_MD_readSign_137 rfl rfl ?_
      refine x_sbk [0, 3] (lv2 := [(0, .ref 387), (3, .int l3)]) rfl ?_; exact b_MD_readSign_138 h
    · replace h := x_ie h c_
      refine x_sipush (v := 256) d_MD_readSign_127 (by decide) ?_
      refine x_iload_n d_MD_readSign_130 rfl rfl ?_
      refine x_imul d_MD_readSign_131 ?_
      refine x_iload_n d_MD_readSign_132 rfl rfl ?_
      refine x_iadd d_MD_readSign_133 ?_
      refine x_goto (tgt := 138) d_MD_readSign_134 (by decide) ?_
      refine x_sbk [0, 3] (lv2 := [(0, .ref 387), (3, .int l3)]) rfl ?_; exact b_MD_readSign_138 h
def B_MD_readSign_101   (l1 : Int32) (l2 : Int32) (l3 : Int32) (m : x_m) : Option (x_m) := B_MD_readSign_106 l1 l2 l3 1 m
theorem b_MD_readSign_101 {G : x_G} {ex : Bool} {r : x_m}   {l1 : Int32} {l2 : Int32} {l3 : Int32} {m : x_m} (h : B_MD_readSign_101 l1 l2 l3 m = some r) : x_W G M_MD_readSign (x_rd 1) (x_Q G (x_rd 1) ex (x_pv r)) ex x_np (x_hp m) 0 0 [(0, .ref 387), (1, .int l1), (2, .int l2), (3, .int l3)] [] 101 := by
  unfold B_MD_readSign_101 at h
  refine x_iconst (v := 1) d_MD_readSign_101 (by decide) ?_
  refine x_goto (tgt := 106) d_MD_readSign_102 (by decide) ?_
  exact b_MD_readSign_106 h
def B_MD_readSign_46   (l1 : Int32) (l2 : Int32) (s0 : Int32) (m : x_m) : Option (x_m) := (if l1 = 40 then B_MD_readSign_101 l1 l2 s0 m else (if l1 = 41 then B_MD_readSign_101 l1 l2 s0 m else (if l1 = 44 then B_MD_readSign_101 l1 l2 s0 m else (if l1 = 59 then B_MD_readSign_101 l1 l2 s0 m else (if l1 = 46 then B_MD_readSign_101 l1 l2 s0 m else (if l1 = 42 then B_MD_readSign_101 l1 l2 s0 m else (if l1 = 61 then B_MD_readSign_101 l1 l2 s0 m else (if l1 = 60 then B_MD_readSign_101 l1 l2 s0 m else (if l1 = 62 then B_MD_readSign_101 l1 l2 s0 m else B_MD_readSign_106 l1 l2 s0 0 m)))))))))
theorem b_MD_readSign_46 {G : x_G} {ex : Bool} {r : x_m}   {l1 : Int32} {l2 : Int32} {s0 : Int32} {m : x_m} (h : B_MD_readSign_46 l1 l2 s0 m = some r) : x_W G M_MD_readSign (x_rd 1) (x_Q G (x_rd 1) ex (x_pv r)) ex x_np (x_hp m) 0 0 [(0, .ref 387), (1, .int l1), (2, .int l2)] [.int s0] 46 := by
  unfold B_MD_readSign_46 at h
  refine x_istore_n (lv2 := [(0, .ref 387), (1, .int l1), (2, .int l2), (3, .int s0)]) d_MD_readSign_46 rfl (by decide) rfl ?_
  refine x_iload_n d_MD_readSign_47 rfl rfl ?_
  refine x_bipush (v := 40) d_MD_readSign_48 (by decide) ?_
  refine x_icmp_eq (tgt := 101) d_MD_readSign_50 (by decide) (fun c_ => ?_) (fun c_ => ?_)
  · replace h := x_it h c_
    exact b_MD_readSign_101 h
  · replace h := x_ie h c_
    refine x_iload_n d_MD_readSign_53 rfl rfl ?_
    refine x_bipush (v := 41) d_MD_readSign_54 (by decide) ?_
    refine x_icmp_eq (tgt := 101) d_MD_readSign_56 (by decide) (fun c_ => ?_) (fun c_ => ?_)
    · replace h := x_it h c_
      exact b_MD_readSign_101 h
    · replace h := x_ie h c_
      refine x_iload_n d_MD_readSign_59 rfl rfl ?_
      refine x_bipush (v := 44) d_MD_readSign_60 (by decide) ?_
      refine x_icmp_eq (tgt := 101) d_MD_readSign_62 (by decide) (fun c_ => ?_) (fun c_ => ?_)
      · replace h := x_it h c_
        exact b_MD_readSign_101 h
      · replace h := x_ie h c_
        refine x_iload_n d_MD_readSign_65 rfl rfl ?_
        refine x_bipush (v := 59) d_MD_readSign_66 (by decide) ?_
        refine x_icmp_eq (tgt := 101) d_MD_readSign_68 (by decide) (fun c_ => ?_) (fun c_ => ?_)
        · replace h := x_it h c_
          exact b_MD_readSign_101 h
        · replace h := x_ie h c_
          refine x_iload_n d_MD_readSign_71 rfl rfl ?_
          refine x_bipush (v := 46) d_MD_readSign_72 (by decide) ?_
          refine x_icmp_eq (tgt := 101) d_MD_readSign_74 (by decide) (fun c_ => ?_) (fun c_ => ?_)
          · replace h := x_it h c_
            exact b_MD_readSign_101 h
          · replace h := x_ie h c_
            refine x_iload_n d_MD_readSign_77 rfl rfl ?_
            refine x_bipush (v := 42) d_MD_readSign_78 (by decide) ?_
            refine x_icmp_eq (tgt := 101) d_MD_readSign_80 (by decide) (fun c_ => ?_) (fun c_ => ?_)
            · replace h := x_it h c_
              exact b_MD_readSign_101 h
            · replace h := x_ie h c_
              refine x_iload_n d_MD_readSign_83 rfl rfl ?_
              refine x_bipush (v := 61) d_MD_readSign_84 (by decide) ?_
              refine x_icmp_eq (tgt := 101) d_MD_readSign_86 (by decide) (fun c_ => ?_) (fun c_ => ?_)
              · replace h := x_it h c_
                exact b_MD_readSign_101 h
              · replace h := x_ie h c_
                refine x_iload_n d_MD_readSign_89 rfl rfl ?_
                refine x_bipush (v := 60) d_MD_readSign_90 (by decide) ?_
                refine x_icmp_eq (tgt := 101) d_MD_readSign_92 (by decide) (fun c_ => ?_) (fun c_ => ?_)
                · replace h := x_it h c_
                  exact b_MD_readSign_101 h
                · replace h := x_ie h c_
                  refine x_iload_n d_MD_readSign_95 rfl rfl ?_
                  refine x_bipush (v := 62) d_MD_readSign_96 (by decide) ?_
                  refine x_icmp_ne (tgt := 105) d_MD_readSign_98 (by decide) (fun c_ => ?_) (fun c_ => ?_)
                  · replace h := x_ie h c_
                    refine x_iconst (v := 0) d_MD_readSign_105 (by decide) ?_
                    exact b_MD_readSign_106 h
                  · replace h := x_it h c_
                    exact b_MD_readSign_101 h
def B_MD_readSign_45   (l1 : Int32) (l2 : Int32) (m : x_m) : Option (x_m) := B_MD_readSign_46 l1 l2 0 m
theorem b_MD_readSign_45 {G : x_G} {ex : Bool} {r : x_m}   {l1 : Int32} {l2 : Int32} {m : x_m} (h : B_MD_readSign_45 l1 l2 m = some r) : x_W G M_MD_readSign (x_rd 1) (x_Q G (x_rd 1) ex (x_pv r)) ex x_np (x_hp m) 0 0 [(0, .ref 387), (1, .int l1), (2, .int l2)] [] 45 := by
  unfold B_MD_readSign_45 at h
  refine x_iconst (v := 0) d_MD_readSign_45 (by decide) ?_
  exact b_MD_readSign_46 h
def B_MD_readSign_41   (l1 : Int32) (l2 : Int32) (m : x_m) : Option (x_m) := B_MD_readSign_46 l1 l2 1 m
theorem b_MD_readSign_41 {G : x_G} {ex : Bool} {r : x_m}   {l1 : Int32} {l2 : Int32} {m : x_m} (h : B_MD_readSign_41 l1 l2 m = some r) : x_W G M_MD_readSign (x_rd 1) (x_Q G (x_rd 1) ex (x_pv r)) ex x_np (x_hp m) 0 0 [(0, .ref 387), (1, .int l1), (2, .int l2)] [] 41 := by
  unfold B_MD_readSign_41 at h
  refine x_iconst (v := 1) d_MD_readSign_41 (by decide) ?_
  refine x_goto (tgt := 46) d_MD_readSign_42 (by decide) ?_
  exact b_MD_readSign_46 h
def B_MD_readSign_29   (l1 : Int32) (l2 : Int32) (m : x_m) : Option (x_m) := (if l1 = 62 then (if l2 = 61 then B_MD_readSign_41 l1 l2 m else B_MD_readSign_45 l1 l2 m) else B_MD_readSign_45 l1 l2 m)
theorem b_MD_readSign_29 {G : x_G} {ex : Bool} {r : x_m}   {l1 : Int32} {l2 : Int32} {m : x_m} (h : B_MD_readSign_29 l1 l2 m = some r) : x_W G M_MD_readSign (x_rd 1) (x_Q G (x_rd 1) ex (x_pv r)) ex x_np (x_hp m) 0 0 [(0, .ref 387), (1, .int l1), (2, .int l2)] [] 29 := by
  unfold B_MD_readSign_29 at h
  refine x_iload_n d_MD_readSign_29 rfl rfl ?_
  refine x_bipush (v := 62) d_MD_readSign_30 (by decide) ?_
  refine x_icmp_ne (tgt := 45) d_MD_readSign_32 (by decide) (fun c_ => ?_) (fun c_ => ?_)
  · replace h := x_ie h c_
    exact b_MD_readSign_45 h
  · replace h := x_it h c_
    refine x_iload_n d_MD_readSign_35 rfl rfl ?_
    refine x_bipush (v := 61) d_MD_readSign_36 (by decide) ?_
    refine x_icmp_ne (tgt := 45) d_MD_readSign_38 (by decide) (fun c_ => ?_) (fun c_ => ?_)
    · replace h := x_ie h c_
      exact b_MD_readSign_45 h
    · replace h := x_it h c_
      exact b_MD_readSign_41 h
def F_MD_readSign  (a1 : Int32) (m : x_m) : Option (x_m) := ((F_MD_look ((m.1 387 7) + 1) m).bind fun r7 => (if a1 = 60 then (if r7.1 = 61 then B_MD_readSign_41 a1 r7.1 r7.2 else (if r7.1 = 62 then B_MD_readSign_41 a1 r7.1 r7.2 else B_MD_readSign_29 a1 r7.1 r7.2)) else B_MD_readSign_29 a1 r7.1 r7.2))
theorem c_MD_readSign {G : x_G} {ex : Bool} {r : x_m}  {a1 : Int32} {m : x_m} (h : F_MD_readSign a1 m = some r) : x_R G M_MD_readSign (x_rd 1) ex [.ref 387, .int a1] x_np (x_hp m) (x_pv r) := by
  unfold F_MD_readSign at h
  show x_W G M_MD_readSign (x_rd 1) (x_Q G (x_rd 1) ex (x_pv r)) ex x_np (x_hp m) 0 0 [(0, .ref 387), (1, .int a1)] [] 0
  refine x_aload_n d_MD_readSign_0 rfl rfl ?_
  refine x_aload_n d_MD_readSign_1 rfl rfl ?_
  refine x_gI d_MD_readSign_2 (f_MD_70 rfl) sh_MD hp_MD rfl ?_
  refine x_iconst (v := 1) d_MD_readSign_5 (by decide) ?_
  refine x_iadd d_MD_readSign_6 ?_
  obtain ⟨r7, e7, h⟩ := x_bd h
  refine x_cVi (M2 := M_MD_look) (As := [.int ((m.1 387 7) + 1)]) (st := []) d_MD_readSign_7 w_1244 k_MD_look (c_MD_look e7) rfl sh_MD hp_MD rfl ⟨Nat.le_of_ble_eq_true rfl, Nat.le_of_ble_eq_true rfl⟩ (Nat.le_of_ble_eq_true rfl) (Nat.le_of_ble_eq_true rfl) rfl ?_
  refine x_istore_n (lv2 := [(0, .ref 387), (1, .int a1), (2, .int r7.1)]) d_MD_readSign_10 rfl (by decide) rfl ?_
  refine x_iload_n d_MD_readSign_11 rfl rfl ?_
  refine x_bipush (v := 60) d_MD_readSign_12 (by decide) ?_
  refine x_icmp_ne (tgt := 29) d_MD_readSign_14 (by decide) (fun c_ => ?_) (fun c_ => ?_)
  · replace h := x_ie h c_
    exact b_MD_readSign_29 h
  · replace h := x_it h c_
    refine x_iload_n d_MD_readSign_17 rfl rfl ?_
    refine x_bipush (v := 61) d_MD_readSign_18 (by decide) ?_
    refine x_icmp_eq (tgt := 41) d_MD_readSign_20 (by decide) (fun c_ => ?_) (fun c_ => ?_)
    · replace h := x_it h c_
      exact b_MD_readSign_41 h
    · replace h := x_ie h c_
      refine x_iload_n d_MD_readSign_23 rfl rfl ?_
      refine x_bipush (v := 62) d_MD_readSign_24 (by decide) ?_
      refine x_icmp_eq (tgt := 41) d_MD_readSign_26 (by decide) (fun c_ => ?_) (fun c_ => ?_)
      · replace h := x_it h c_
        exact b_MD_readSign_41 h
      · replace h := x_ie h c_
        exact b_MD_readSign_29 h
def B_MD_wordOf_92  (K4 : Int32 → Int32 → x_m → Option (Int32 × x_m)) : Nat → Int32 → Int32 → x_m → Option (Int32 × x_m)
  | 0, _, _, _ => none
  | f_ + 1, l1, l2, m => (if x_ix l2 109 = true then (if (x_ch l2) = 32 then K4 (l1 + 1) l2 m else (B_MD_wordOf_92 K4 f_) l1 (l2 + 1) m) else none)
theorem b_MD_wordOf_92 {G : x_G} {ex : Bool} {r : Int32 × x_m}  {K4 : Int32 → Int32 → x_m → Option (Int32 × x_m)} (hK4 : ∀ (l1 : Int32) (l2 : Int32) (m : x_m), K4 l1 l2 m = some r → x_W G M_MD_wordOf (x_rd 4) (x_Q G (x_rd 4) ex (x_pi r)) ex x_np (x_hp m) 0 0 [(0, .ref 387), (1, .int l1), (2, .int l2)] [] 4) : ∀ (f_ : Nat) (l1 : Int32) (l2 : Int32) (m : x_m), B_MD_wordOf_92 K4 f_ l1 l2 m = some r → x_W G M_MD_wordOf (x_rd 4) (x_Q G (x_rd 4) ex (x_pi r)) ex x_np (x_hp m) 0 0 [(0, .ref 387), (1, .int l1), (2, .int l2)] [] 92 := by
  intro f_
  induction f_ with
  | zero => intro l1 l2 m h; exact nomatch h
  | succ f_ ih =>
    intro l1 l2 m h
    rw [B_MD_wordOf_92] at h
    have hK92 := ih
    refine x_ldcT d_MD_wordOf_92 rfl ?_
    refine x_iload_n d_MD_wordOf_94 rfl rfl ?_
    obtain ⟨g_95, h⟩ := x_gd h
    refine x_cVt (M2 := M_ST_charAt) (As := [.int l2]) (st := []) d_MD_wordOf_95 w_1268 k_ST_charAt (c_ST_charAt g_95) rfl ⟨Nat.le_of_ble_eq_true rfl, Nat.le_of_ble_eq_true rfl⟩ (Nat.le_of_ble_eq_true rfl) (Nat.le_of_ble_eq_true rfl) rfl ?_
    refine x_bipush (v := 32) d_MD_wordOf_98 (by decide) ?_
    refine x_icmp_eq (tgt := 109) d_MD_wordOf_100 (by decide) (fun c_ => ?_) (fun c_ => ?_)
    · replace h := x_it h c_
      refine x_iinc (v := l1 + 1) (lv2 := [(0, .ref 387), (1, .int (l1 + 1)), (2, .int l2)]) d_MD_wordOf_109 rfl rfl (by decide) rfl ?_
      refine x_goto (tgt := 4) d_MD_wordOf_112 (by decide) ?_
      exact hK4 _ _ _ h
    · replace h := x_ie h c_
      refine x_iinc (v := l2 + 1) (lv2 := [(0, .ref 387), (1, .int l1), (2, .int (l2 + 1))]) d_MD_wordOf_103 rfl rfl (by decide) rfl ?_
      refine x_goto (tgt := 92) d_MD_wordOf_106 (by decide) ?_
      exact hK92 _ _ _ h
def B_MD_wordOf_89  (K4 : Int32 → Int32 → x_m → Option (Int32 × x_m)) (l1 : Int32) (l2 : Int32) (m : x_m) : Option (Int32 × x_m) := B_MD_wordOf_92 K4 x_fu l1 (l2 + 1) m
theorem b_MD_wordOf_89 {G : x_G} {ex : Bool} {r : Int32 × x_m}  {K4 : Int32 → Int32 → x_m → Option (Int32 × x_m)} (hK4 : ∀ (l1 : Int32) (l2 : Int32) (m : x_m), K4 l1 l2 m = some r → x_W G M_MD_wordOf (x_rd 4) (x_Q G (x_rd 4) ex (x_pi r)) ex x_np (x_hp m) 0 0 [(0, .ref 387), (1, .int l1), (2, .int l2)] [] 4) {l1 : Int32} {l2 : Int32} {m : x_m} (h : B_MD_wordOf_89 K4 l1 l2 m = some r) : x_W G M_MD_wordOf (x_rd 4) (x_Q G (x_rd 4) ex (x_pi r)) ex x_np (x_hp m) 0 0 [(0, .ref 387), (1, .int l1), (2, .int l2)] [] 89 := by
  unfold B_MD_wordOf_89 at h
  refine x_iinc (v := l2 + 1) (lv2 := [(0, .ref 387), (1, .int l1), (2, .int (l2 + 1))]) d_MD_wordOf_89 rfl rfl (by decide) rfl ?_
  exact b_MD_wordOf_92 hK4 _ _ _ _ h
def B_MD_wordOf_59  (K4 : Int32 → Int32 → x_m → Option (Int32 × x_m)) (l1 : Int32) (l2 : Int32) (l3 : Int32) (m : x_m) : Option (Int32 × x_m) := (if ((m.1 387 8) + l3) = (m.1 387 7) then (if x_ix ((l2 + 1) + l3) 109 = true then (if (x_ch ((l2 + 1) + l3)) = 32 then some (l1, m) else B_MD_wordOf_89 K4 l1 l2 m) else none) else B_MD_wordOf_89 K4 l1 l2 m)
theorem b_MD_wordOf_59 {G : x_G} {ex : Bool} {r : Int32 × x_m}  {K4 : Int32 → Int32 → x_m → Option (Int32 × x_m)} (hK4 : ∀ (l1 : Int32) (l2 : Int32) (m : x_m), K4 l1 l2 m = some r → x_W G M_MD_wordOf (x_rd 4) (x_Q G (x_rd 4) ex (x_pi r)) ex x_np (x_hp m) 0 0 [(0, .ref 387), (1, .int l1), (2, .int l2)] [] 4) {l1 : Int32} {l2 : Int32} {l3 : Int32} {m : x_m} (h : B_MD_wordOf_59 K4 l1 l2 l3 m = some r) : x_W G M_MD_wordOf (x_rd 4) (x_Q G (x_rd 4) ex (x_pi r)) ex x_np (x_hp m) 0 0 [(0, .ref 387), (1, .int l1), (2, .int l2), (3, .int l3)] [] 59 := by
  unfold B_MD_wordOf_59 at h
  refine x_aload_n d_MD_wordOf_59 rfl rfl ?_
  refine x_gI d_MD_wordOf_60 (f_MD_77 rfl) sh_MD hp_MD rfl ?_
  refine x_iload_n d_MD_wordOf_63 rfl rfl ?_
  refine x_iadd d_MD_wordOf_64 ?_
  refine x_aload_n d_MD_wordOf_65 rfl rfl ?_
  refine x_gI d_MD_wordOf_66 (f_MD_70 rfl) sh_MD hp_MD rfl ?_
  refine x_icmp_ne (tgt := 89) d_MD_wordOf_69 (by decide) (fun c_ => ?_) (fun c_ => ?_)
  · replace h := x_ie h c_
    refine x_sbk [0, 1, 2] (lv2 := [(0, .ref 387), (1, .int l1), (2, .int l2)]) rfl ?_; exact b_MD_wordOf_89 hK4 h
  · replace h := x_it h c_
    refine x_ldcT d_MD_wordOf_72 rfl ?_
    refine x_iload_n d_MD_wordOf_74 rfl rfl ?_
    refine x_iconst (v := 1) d_MD_wordOf_75 (by decide) ?_
    refine x_iadd d_MD_wordOf_76 ?_
    refine x_iload_n d_MD_wordOf_77 rfl rfl ?_
    refine x_iadd d_MD_wordOf_78 ?_
    obtain ⟨g_79, h⟩ := x_gd h
    refine x_cVt (M2 := M_ST_charAt) (As := [.int ((l2 + 1) + l3)]) (st := []) d_MD_wordOf_79 w_1268 k_ST_charAt (c_ST_charAt g_79) rfl ⟨Nat.le_of_ble_eq_true rfl, Nat.le_of_ble_eq_true rfl⟩ (Nat.le_of_ble_eq_true rfl) (Nat.le_of_ble_eq_true rfl) rfl ?_
    refine x_bipush (v := 32) d_MD_wordOf_82 (by decide) ?_
    refine x_icmp_ne (tgt := 89) d_MD_wordOf_84 (by decide) (fun c_ => ?_) (fun c_ => ?_)
    · replace h := x_ie h c_
      refine x_sbk [0, 1, 2] (lv2 := [(0, .ref 387), (1, .int l1), (2, .int l2)]) rfl ?_; exact b_MD_wordOf_89 hK4 h
    · replace h := x_it h c_
      refine x_iload_n d_MD_wordOf_87 rfl rfl ?_
      cases h
      exact x_ri d_MD_wordOf_88 rfl rfl
def B_MD_wordOf_17  (K4 : Int32 → Int32 → x_m → Option (Int32 × x_m)) : Nat → Int32 → Int32 → Int32 → x_m → Option (Int32 × x_m)
  | 0, _, _, _, _ => none
  | f_ + 1, l1, l2, l3, m => (if (m.1 387 7) ≤ ((m.1 387 8) + l3) then B_MD_wordOf_59 K4 l1 l2 l3 m else (if x_ix ((l2 + 1) + l3) 109 = true then ((F_MD_look ((m.1 387 8) + l3) m).bind fun r47 => (if (x_ch ((l2 + 1) + l3)) = r47.1 then (B_MD_wordOf_17 K4 f_) l1 l2 (l3 + 1) r47.2 else B_MD_wordOf_59 K4 l1 l2 l3 r47.2)) else none))
theorem b_MD_wordOf_17 {G : x_G} {ex : Bool} {r : Int32 × x_m}  {K4 : Int32 → Int32 → x_m → Option (Int32 × x_m)} (hK4 : ∀ (l1 : Int32) (l2 : Int32) (m : x_m), K4 l1 l2 m = some r → x_W G M_MD_wordOf (x_rd 4) (x_Q G (x_rd 4) ex (x_pi r)) ex x_np (x_hp m) 0 0 [(0, .ref 387), (1, .int l1), (2, .int l2)] [] 4) : ∀ (f_ : Nat) (l1 : Int32) (l2 : Int32) (l3 : Int32) (m : x_m), B_MD_wordOf_17 K4 f_ l1 l2 l3 m = some r → x_W G M_MD_wordOf (x_rd 4) (x_Q G (x_rd 4) ex (x_pi r)) ex x_np (x_hp m) 0 0 [(0, .ref 387), (1, .int l1), (2, .int l2), (3, .int l3)] [] 17 := by
  intro f_
  induction f_ with
  | zero => intro l1 l2 l3 m h; exact nomatch h
  | succ f_ ih =>
    intro l1 l2 l3 m h
    rw [B_MD_wordOf_17] at h
    have hK17 := ih
    refine x_aload_n d_MD_wordOf_17 rfl rfl ?_
    refine x_gI d_MD_wordOf_18 (f_MD_77 rfl) sh_MD hp_MD rfl ?_
    refine x_iload_n d_MD_wordOf_21 rfl rfl ?_
    refine x_iadd d_MD_wordOf_22 ?_
    refine x_aload_n d_MD_wordOf_23 rfl rfl ?_
    refine x_gI d_MD_wordOf_24 (f_MD_70 rfl) sh_MD hp_MD rfl ?_
    refine x_icmp_ge (tgt := 59) d_MD_wordOf_27 (by decide) (fun c_ => ?_) (fun c_ => ?_)
    · replace h := x_it h c_
      exact b_MD_wordOf_59 hK4 h
    · replace h := x_ie h c_
      refine x_ldcT d_MD_wordOf_30 rfl ?_
      refine x_iload_n d_MD_wordOf_32 rfl rfl ?_
      refine x_iconst (v := 1) d_MD_wordOf_33 (by decide) ?_
      refine x_iadd d_MD_wordOf_34 ?_
      refine x_iload_n d_MD_wordOf_35 rfl rfl ?_
      refine x_iadd d_MD_wordOf_36 ?_
      obtain ⟨g_37, h⟩ := x_gd h
      refine x_cVt (M2 := M_ST_charAt) (As := [.int ((l2 + 1) + l3)]) (st := []) d_MD_wordOf_37 w_1268 k_ST_charAt (c_ST_charAt g_37) rfl ⟨Nat.le_of_ble_eq_true rfl, Nat.le_of_ble_eq_true rfl⟩ (Nat.le_of_ble_eq_true rfl) (Nat.le_of_ble_eq_true rfl) rfl ?_
      refine x_aload_n d_MD_wordOf_40 rfl rfl ?_
      refine x_aload_n d_MD_wordOf_41 rfl rfl ?_
      refine x_gI d_MD_wordOf_42 (f_MD_77 rfl) sh_MD hp_MD rfl ?_
      refine x_iload_n d_MD_wordOf_45 rfl rfl ?_
      refine x_iadd d_MD_wordOf_46 ?_
      obtain ⟨r47, e47, h⟩ := x_bd h
      refine x_cVi (M2 := M_MD_look) (As := [.int ((m.1 387 8) + l3)]) (st := [.int (x_ch ((l2 + 1) + l3))]) d_MD_wordOf_47 w_1244 k_MD_look (c_MD_look e47) rfl sh_MD hp_MD rfl ⟨Nat.le_of_ble_eq_true rfl, Nat.le_of_ble_eq_true rfl⟩ (Nat.le_of_ble_eq_true rfl) (Nat.le_of_ble_eq_true rfl) rfl ?_
      refine x_icmp_ne (tgt := 59) d_MD_wordOf_50 (by decide) (fun c_ => ?_) (fun c_ => ?_)
      · replace h := x_ie h c_
        exact b_MD_wordOf_59 hK4 h
      · replace h := x_it h c_
        refine x_iinc (v := l3 + 1) (lv2 := [(0, .ref 387), (1, .int l1), (2, .int l2), (3, .int (l3 + 1))]) d_MD_wordOf_53 rfl rfl (by decide) rfl ?_
        refine x_goto (tgt := 17) d_MD_wordOf_56 (by decide) ?_
        exact hK17 _ _ _ _ h
def B_MD_wordOf_4   : Nat → Int32 → Int32 → x_m → Option (Int32 × x_m)
  | 0, _, _, _ => none
  | f_ + 1, l1, l2, m => (if 109 ≤ (l2 + 1) then some ((-1), m) else B_MD_wordOf_17 (B_MD_wordOf_4 f_) x_fu l1 l2 0 m)
theorem b_MD_wordOf_4 {G : x_G} {ex : Bool} {r : Int32 × x_m}   : ∀ (f_ : Nat) (l1 : Int32) (l2 : Int32) (m : x_m), B_MD_wordOf_4 f_ l1 l2 m = some r → x_W G M_MD_wordOf (x_rd 4) (x_Q G (x_rd 4) ex (x_pi r)) ex x_np (x_hp m) 0 0 [(0, .ref 387), (1, .int l1), (2, .int l2)] [] 4 := by
  intro f_
  induction f_ with
  | zero => intro l1 l2 m h; exact nomatch h
  | succ f_ ih =>
    intro l1 l2 m h
    rw [B_MD_wordOf_4] at h
    have hK4 := ih
    refine x_iload_n d_MD_wordOf_4 rfl rfl ?_
    refine x_iconst (v := 1) d_MD_wordOf_5 (by decide) ?_
    refine x_iadd d_MD_wordOf_6 ?_
    refine x_ldcT d_MD_wordOf_7 rfl ?_
    refine x_cVt (M2 := M_ST_length) (As := []) (st := [.int (l2 + 1)]) d_MD_wordOf_9 w_1258 k_ST_length c_ST_length rfl ⟨Nat.le_of_ble_eq_true rfl, Nat.le_of_ble_eq_true rfl⟩ (Nat.le_of_ble_eq_true rfl) (Nat.le_of_ble_eq_true rfl) rfl ?_
    refine x_icmp_ge (tgt := 115) d_MD_wordOf_12 (by decide) (fun c_ => ?_) (fun c_ => ?_)
    · replace h := x_it h c_
      refine x_iconst (v := (-1)) d_MD_wordOf_115 (by decide) ?_
      cases h
      exact x_ri d_MD_wordOf_116 rfl rfl
    · replace h := x_ie h c_
      refine x_iconst (v := 0) d_MD_wordOf_15 (by decide) ?_
      refine x_istore_n (lv2 := [(0, .ref 387), (1, .int l1), (2, .int l2), (3, .int 0)]) d_MD_wordOf_16 rfl (by decide) rfl ?_
      exact b_MD_wordOf_17 hK4 _ _ _ _ _ h
def F_MD_wordOf   (m : x_m) : Option (Int32 × x_m) := B_MD_wordOf_4 x_fu 0 0 m
theorem c_MD_wordOf {G : x_G} {ex : Bool} {r : Int32 × x_m}   {m : x_m} (h : F_MD_wordOf m = some r) : x_R G M_MD_wordOf (x_rd 4) ex [.ref 387] x_np (x_hp m) (x_pi r) := by
  unfold F_MD_wordOf at h
  show x_W G M_MD_wordOf (x_rd 4) (x_Q G (x_rd 4) ex (x_pi r)) ex x_np (x_hp m) 0 0 [(0, .ref 387)] [] 0
  refine x_iconst (v := 0) d_MD_wordOf_0 (by decide) ?_
  refine x_istore_n (lv2 := [(0, .ref 387), (1, .int 0)]) d_MD_wordOf_1 rfl (by decide) rfl ?_
  refine x_iconst (v := 0) d_MD_wordOf_2 (by decide) ?_
  refine x_istore_n (lv2 := [(0, .ref 387), (1, .int 0), (2, .int 0)]) d_MD_wordOf_3 rfl (by decide) rfl ?_
  exact b_MD_wordOf_4 _ _ _ _ h
def B_MD_read_275    (m : x_m) : Option (x_m) := some m
theorem b_MD_read_275 {G : x_G} {ex : Bool} {r : x_m}    {m : x_m} (h : B_MD_read_275 m = some r) : x_W G M_MD_read (x_rd 5) (x_Q G (x_rd 5) ex (x_pv r)) ex x_np (x_hp m) 0 0 [] [] 275 := by
  unfold B_MD_read_275 at h
  cases h
  exact x_rv d_MD_read_275 rfl
def B_MD_read_265   (l1 : Int32) (m : x_m) : Option (x_m) := ((F_MD_readSign l1 (x_wS m 387 9 3)).bind fun r272 => B_MD_read_275 r272)
theorem b_MD_read_265 {G : x_G} {ex : Bool} {r : x_m}   {l1 : Int32} {m : x_m} (h : B_MD_read_265 l1 m = some r) : x_W G M_MD_read (x_rd 5) (x_Q G (x_rd 5) ex (x_pv r)) ex x_np (x_hp m) 0 0 [(0, .ref 387), (1, .int l1)] [] 265 := by
  unfold B_MD_read_265 at h
  refine x_aload_n d_MD_read_265 rfl rfl ?_
  refine x_iconst (v := 3) d_MD_read_266 (by decide) ?_
  refine x_pI d_MD_read_267 (f_MD_86 rfl) tb_MD rfl sh_MD hp_MD rfl ⟨rfl, rfl⟩ ?_
  refine x_aload_n d_MD_read_270 rfl rfl ?_
  refine x_iload_n d_MD_read_271 rfl rfl ?_
  obtain ⟨r272, e272, h⟩ := x_bd h
  refine x_cVv (M2 := M_MD_readSign) (As := [.int l1]) (st := []) d_MD_read_272 w_1319 k_MD_readSign (c_MD_readSign e272) rfl sh_MD hp_MD rfl ⟨Nat.le_of_ble_eq_true rfl, Nat.le_of_ble_eq_true rfl⟩ (Nat.le_of_ble_eq_true rfl) (Nat.le_of_ble_eq_true rfl) rfl ?_
  refine x_sbk [] (lv2 := []) rfl ?_; exact b_MD_read_275 h
def B_MD_read_259   (s0 : Int32) (m : x_m) : Option (x_m) := ((F_MD_readNumber s0 m).bind fun r259 => B_MD_read_275 r259)
theorem b_MD_read_259 {G : x_G} {ex : Bool} {r : x_m}   {s0 : Int32} {m : x_m} (h : B_MD_read_259 s0 m = some r) : x_W G M_MD_read (x_rd 5) (x_Q G (x_rd 5) ex (x_pv r)) ex x_np (x_hp m) 0 0 [] [.int s0, .ref 387] 259 := by
  unfold B_MD_read_259 at h
  obtain ⟨r259, e259, h⟩ := x_bd h
  refine x_cVv (M2 := M_MD_readNumber) (As := [.int s0]) (st := []) d_MD_read_259 w_1306 k_MD_readNumber (c_MD_readNumber e259) rfl sh_MD hp_MD rfl ⟨Nat.le_of_ble_eq_true rfl, Nat.le_of_ble_eq_true rfl⟩ (Nat.le_of_ble_eq_true rfl) (Nat.le_of_ble_eq_true rfl) rfl ?_
  refine x_goto (tgt := 275) d_MD_read_262 (by decide) ?_
  exact b_MD_read_275 h
def B_MD_read_247   (l1 : Int32) (m : x_m) : Option (x_m) := (if l1 = 45 then B_MD_read_259 1 m else B_MD_read_259 0 m)
theorem b_MD_read_247 {G : x_G} {ex : Bool} {r : x_m}   {l1 : Int32} {m : x_m} (h : B_MD_read_247 l1 m = some r) : x_W G M_MD_read (x_rd 5) (x_Q G (x_rd 5) ex (x_pv r)) ex x_np (x_hp m) 0 0 [(0, .ref 387), (1, .int l1)] [] 247 := by
  unfold B_MD_read_247 at h
  refine x_aload_n d_MD_read_247 rfl rfl ?_
  refine x_iload_n d_MD_read_248 rfl rfl ?_
  refine x_bipush (v := 45) d_MD_read_249 (by decide) ?_
  refine x_icmp_ne (tgt := 258) d_MD_read_251 (by decide) (fun c_ => ?_) (fun c_ => ?_)
  · replace h := x_ie h c_
    refine x_iconst (v := 0) d_MD_read_258 (by decide) ?_
    refine x_sbk [] (lv2 := []) rfl ?_; exact b_MD_read_259 h
  · replace h := x_it h c_
    refine x_iconst (v := 1) d_MD_read_254 (by decide) ?_
    refine x_goto (tgt := 259) d_MD_read_255 (by decide) ?_
    refine x_sbk [] (lv2 := []) rfl ?_; exact b_MD_read_259 h
def B_MD_read_202    (m : x_m) : Option (x_m) := ((F_MD_wordOf (x_wS m 387 9 1)).bind fun r209 => B_MD_read_275 (x_wS r209.2 387 10 r209.1))
theorem b_MD_read_202 {G : x_G} {ex : Bool} {r : x_m}    {m : x_m} (h : B_MD_read_202 m = some r) : x_W G M_MD_read (x_rd 5) (x_Q G (x_rd 5) ex (x_pv r)) ex x_np (x_hp m) 0 0 [(0, .ref 387)] [] 202 := by
  unfold B_MD_read_202 at h
  refine x_aload_n d_MD_read_202 rfl rfl ?_
  refine x_iconst (v := 1) d_MD_read_203 (by decide) ?_
  refine x_pI d_MD_read_204 (f_MD_86 rfl) tb_MD rfl sh_MD hp_MD rfl ⟨rfl, rfl⟩ ?_
  refine x_aload_n d_MD_read_207 rfl rfl ?_
  refine x_aload_n d_MD_read_208 rfl rfl ?_
  obtain ⟨r209, e209, h⟩ := x_bd h
  refine x_cVi (M2 := M_MD_wordOf) (As := []) (st := [.ref 387]) d_MD_read_209 w_1254 k_MD_wordOf (c_MD_wordOf e209) rfl sh_MD hp_MD rfl ⟨Nat.le_of_ble_eq_true rfl, Nat.le_of_ble_eq_true rfl⟩ (Nat.le_of_ble_eq_true rfl) (Nat.le_of_ble_eq_true rfl) rfl ?_
  refine x_pI d_MD_read_212 (f_MD_80 rfl) tb_MD rfl sh_MD hp_MD rfl ⟨rfl, rfl⟩ ?_
  refine x_goto (tgt := 275) d_MD_read_215 (by decide) ?_
  refine x_sbk [] (lv2 := []) rfl ?_; exact b_MD_read_275 h
def B_MD_read_189  (K137 : x_m → Option (x_m))  (m : x_m) : Option (x_m) := K137 (x_wS m 387 7 ((m.1 387 7) + 1))
theorem b_MD_read_189 {G : x_G} {ex : Bool} {r : x_m}  {K137 : x_m → Option (x_m)} (hK137 : ∀  (m : x_m), K137 m = some r → x_W G M_MD_read (x_rd 5) (x_Q G (x_rd 5) ex (x_pv r)) ex x_np (x_hp m) 0 0 [(0, .ref 387)] [] 137)  {m : x_m} (h : B_MD_read_189 K137 m = some r) : x_W G M_MD_read (x_rd 5) (x_Q G (x_rd 5) ex (x_pv r)) ex x_np (x_hp m) 0 0 [(0, .ref 387)] [] 189 := by
  unfold B_MD_read_189 at h
  refine x_aload_n d_MD_read_189 rfl rfl ?_
  refine x_dup d_MD_read_190 rfl ?_
  refine x_gI d_MD_read_191 (f_MD_70 rfl) sh_MD hp_MD rfl ?_
  refine x_iconst (v := 1) d_MD_read_194 (by decide) ?_
  refine x_iadd d_MD_read_195 ?_
  refine x_pI d_MD_read_196 (f_MD_70 rfl) tb_MD rfl sh_MD hp_MD rfl ⟨rfl, rfl⟩ ?_
  refine x_goto (tgt := 137) d_MD_read_199 (by decide) ?_
  exact hK137 _ h
def B_MD_read_137   : Nat → x_m → Option (x_m)
  | 0, _ => none
  | f_ + 1, m => (if (m.1 387 4) ≤ (m.1 387 7) then B_MD_read_202 m else ((F_MD_look (m.1 387 7) m).bind fun r153 => ((F_MD_isLetter r153.1 r153.2).bind fun r156 => (if r156.1 = 0 then ((F_MD_look (r156.2.1 387 7) r156.2).bind fun r167 => ((F_MD_isDigit r167.1 r167.2).bind fun r170 => (if r170.1 = 0 then ((F_MD_look (r170.2.1 387 7) r170.2).bind fun r181 => (if r181.1 = 95 then B_MD_read_189 (B_MD_read_137 f_) r181.2 else B_MD_read_202 r181.2)) else B_MD_read_189 (B_MD_read_137 f_) r170.2))) else B_MD_read_189 (B_MD_read_137 f_) r156.2))))
theorem b_MD_read_137 {G : x_G} {ex : Bool} {r : x_m}   : ∀ (f_ : Nat)  (m : x_m), B_MD_read_137 f_ m = some r → x_W G M_MD_read (x_rd 5) (x_Q G (x_rd 5) ex (x_pv r)) ex x_np (x_hp m) 0 0 [(0, .ref 387)] [] 137 := by
  intro f_
  induction f_ with
  | zero => intro m h; exact nomatch h
  | succ f_ ih =>
    intro m h
    rw [B_MD_read_137] at h
    have hK137 := ih
    refine x_aload_n d_MD_read_137 rfl rfl ?_
    refine x_gI d_MD_read_138 (f_MD_70 rfl) sh_MD hp_MD rfl ?_
    refine x_aload_n d_MD_read_141 rfl rfl ?_
    refine x_gI d_MD_read_142 (f_MD_60 rfl) sh_MD hp_MD rfl ?_
    refine x_icmp_ge (tgt := 202) d_MD_read_145 (by decide) (fun c_ => ?_) (fun c_ => ?_)
    · replace h := x_it h c_
      exact b_MD_read_202 h
    · replace h := x_ie h c_
      refine x_aload_n d_MD_read_148 rfl rfl ?_
      refine x_aload_n d_MD_read_149 rfl rfl ?_
      refine x_gI d_MD_read_150 (f_MD_70 rfl) sh_MD hp_MD rfl ?_
      obtain ⟨r153, e153, h⟩ := x_bd h
      refine x_cVi (M2 := M_MD_look) (As := [.int (m.1 387 7)]) (st := []) d_MD_read_153 w_1244 k_MD_look (c_MD_look e153) rfl sh_MD hp_MD rfl ⟨Nat.le_of_ble_eq_true rfl, Nat.le_of_ble_eq_true rfl⟩ (Nat.le_of_ble_eq_true rfl) (Nat.le_of_ble_eq_true rfl) rfl ?_
      obtain ⟨r156, e156, h⟩ := x_bd h
      refine x_cSi (M2 := M_MD_isLetter) (As := [.int r153.1]) (st := []) d_MD_read_156 w_1248 k_MD_isLetter (c_MD_isLetter e156) rfl ⟨Nat.le_of_ble_eq_true rfl, Nat.le_of_ble_eq_true rfl⟩ (Nat.le_of_ble_eq_true rfl) (Nat.le_of_ble_eq_true rfl) rfl ?_
      refine x_if_ne (tgt := 189) d_MD_read_159 (by decide) (fun c_ => ?_) (fun c_ => ?_)
      · replace h := x_ie h c_
        exact b_MD_read_189 hK137 h
      · replace h := x_it h c_
        refine x_aload_n d_MD_read_162 rfl rfl ?_
        refine x_aload_n d_MD_read_163 rfl rfl ?_
        refine x_gI d_MD_read_164 (f_MD_70 rfl) sh_MD hp_MD rfl ?_
        obtain ⟨r167, e167, h⟩ := x_bd h
        refine x_cVi (M2 := M_MD_look) (As := [.int (r156.2.1 387 7)]) (st := []) d_MD_read_167 w_1244 k_MD_look (c_MD_look e167) rfl sh_MD hp_MD rfl ⟨Nat.le_of_ble_eq_true rfl, Nat.le_of_ble_eq_true rfl⟩ (Nat.le_of_ble_eq_true rfl) (Nat.le_of_ble_eq_true rfl) rfl ?_
        obtain ⟨r170, e170, h⟩ := x_bd h
        refine x_cSi (M2 := M_MD_isDigit) (As := [.int r167.1]) (st := []) d_MD_read_170 w_1251 k_MD_isDigit (c_MD_isDigit e170) rfl ⟨Nat.le_of_ble_eq_true rfl, Nat.le_of_ble_eq_true rfl⟩ (Nat.le_of_ble_eq_true rfl) (Nat.le_of_ble_eq_true rfl) rfl ?_
        refine x_if_ne (tgt := 189) d_MD_read_173 (by decide) (fun c_ => ?_) (fun c_ => ?_)
        · replace h := x_ie h c_
          exact b_MD_read_189 hK137 h
        · replace h := x_it h c_
          refine x_aload_n d_MD_read_176 rfl rfl ?_
          refine x_aload_n d_MD_read_177 rfl rfl ?_
          refine x_gI d_MD_read_178 (f_MD_70 rfl) sh_MD hp_MD rfl ?_
          obtain ⟨r181, e181, h⟩ := x_bd h
          refine x_cVi (M2 := M_MD_look) (As := [.int (r170.2.1 387 7)]) (st := []) d_MD_read_181 w_1244 k_MD_look (c_MD_look e181) rfl sh_MD hp_MD rfl ⟨Nat.le_of_ble_eq_true rfl, Nat.le_of_ble_eq_true rfl⟩ (Nat.le_of_ble_eq_true rfl) (Nat.le_of_ble_eq_true rfl) rfl ?_
          refine x_bipush (v := 95) d_MD_read_184 (by decide) ?_
          refine x_icmp_ne (tgt := 202) d_MD_read_186 (by decide) (fun c_ => ?_) (fun c_ => ?_)
          · replace h := x_ie h c_
            exact b_MD_read_202 h
          · replace h := x_it h c_
            exact b_MD_read_189 hK137 h
def B_MD_read_84    (m : x_m) : Option (x_m) := ((F_MD_look ((x_wS (x_wS (x_wS m 387 8 (m.1 387 7)) 387 10 ((-1))) 387 12 0).1 387 7) (x_wS (x_wS (x_wS m 387 8 (m.1 387 7)) 387 10 ((-1))) 387 12 0)).bind fun r107 => (if (r107.2.1 387 7) = (r107.2.1 387 4) then B_MD_read_275 (x_wS r107.2 387 9 0) else ((F_MD_isLetter r107.1 r107.2).bind fun r131 => (if r131.1 = 0 then ((F_MD_isDigit r107.1 r131.2).bind fun r219 => (if r219.1 = 0 then (if r107.1 = 45 then ((F_MD_look ((r219.2.1 387 7) + 1) r219.2).bind fun r238 => ((F_MD_isDigit r238.1 r238.2).bind fun r241 => (if r241.1 = 0 then B_MD_read_265 r107.1 r241.2 else B_MD_read_247 r107.1 r241.2))) else B_MD_read_265 r107.1 r219.2) else B_MD_read_247 r107.1 r219.2)) else B_MD_read_137 x_fu r131.2))))
theorem b_MD_read_84 {G : x_G} {ex : Bool} {r : x_m}    {m : x_m} (h : B_MD_read_84 m = some r) : x_W G M_MD_read (x_rd 5) (x_Q G (x_rd 5) ex (x_pv r)) ex x_np (x_hp m) 0 0 [(0, .ref 387)] [] 84 := by
  unfold B_MD_read_84 at h
  refine x_aload_n d_MD_read_84 rfl rfl ?_
  refine x_aload_n d_MD_read_85 rfl rfl ?_
  refine x_gI d_MD_read_86 (f_MD_70 rfl) sh_MD hp_MD rfl ?_
  refine x_pI d_MD_read_89 (f_MD_77 rfl) tb_MD rfl sh_MD hp_MD rfl ⟨rfl, rfl⟩ ?_
  refine x_aload_n d_MD_read_92 rfl rfl ?_
  refine x_iconst (v := (-1)) d_MD_read_93 (by decide) ?_
  refine x_pI d_MD_read_94 (f_MD_80 rfl) tb_MD rfl sh_MD hp_MD rfl ⟨rfl, rfl⟩ ?_
  refine x_aload_n d_MD_read_97 rfl rfl ?_
  refine x_iconst (v := 0) d_MD_read_98 (by decide) ?_
  refine x_pI d_MD_read_99 (f_MD_83 rfl) tb_MD rfl sh_MD hp_MD rfl ⟨rfl, rfl⟩ ?_
  refine x_aload_n d_MD_read_102 rfl rfl ?_
  refine x_aload_n d_MD_read_103 rfl rfl ?_
  refine x_gI d_MD_read_104 (f_MD_70 rfl) sh_MD hp_MD rfl ?_
  obtain ⟨r107, e107, h⟩ := x_bd h
  refine x_cVi (M2 := M_MD_look) (As := [.int ((x_wS (x_wS (x_wS m 387 8 (m.1 387 7)) 387 10 ((-1))) 387 12 0).1 387 7)]) (st := []) d_MD_read_107 w_1244 k_MD_look (c_MD_look e107) rfl sh_MD hp_MD rfl ⟨Nat.le_of_ble_eq_true rfl, Nat.le_of_ble_eq_true rfl⟩ (Nat.le_of_ble_eq_true rfl) (Nat.le_of_ble_eq_true rfl) rfl ?_
  refine x_istore_n (lv2 := [(0, .ref 387), (1, .int r107.1)]) d_MD_read_110 rfl (by decide) rfl ?_
  refine x_aload_n d_MD_read_111 rfl rfl ?_
  refine x_gI d_MD_read_112 (f_MD_70 rfl) sh_MD hp_MD rfl ?_
  refine x_aload_n d_MD_read_115 rfl rfl ?_
  refine x_gI d_MD_read_116 (f_MD_60 rfl) sh_MD hp_MD rfl ?_
  refine x_icmp_ne (tgt := 130) d_MD_read_119 (by decide) (fun c_ => ?_) (fun c_ => ?_)
  · replace h := x_ie h c_
    refine x_iload_n d_MD_read_130 rfl rfl ?_
    obtain ⟨r131, e131, h⟩ := x_bd h
    refine x_cSi (M2 := M_MD_isLetter) (As := [.int r107.1]) (st := []) d_MD_read_131 w_1248 k_MD_isLetter (c_MD_isLetter e131) rfl ⟨Nat.le_of_ble_eq_true rfl, Nat.le_of_ble_eq_true rfl⟩ (Nat.le_of_ble_eq_true rfl) (Nat.le_of_ble_eq_true rfl) rfl ?_
    refine x_if_eq (tgt := 218) d_MD_read_134 (by decide) (fun c_ => ?_) (fun c_ => ?_)
    · replace h := x_it h c_
      refine x_iload_n d_MD_read_218 rfl rfl ?_
      obtain ⟨r219, e219, h⟩ := x_bd h
      refine x_cSi (M2 := M_MD_isDigit) (As := [.int r107.1]) (st := []) d_MD_read_219 w_1251 k_MD_isDigit (c_MD_isDigit e219) rfl ⟨Nat.le_of_ble_eq_true rfl, Nat.le_of_ble_eq_true rfl⟩ (Nat.le_of_ble_eq_true rfl) (Nat.le_of_ble_eq_true rfl) rfl ?_
      refine x_if_ne (tgt := 247) d_MD_read_222 (by decide) (fun c_ => ?_) (fun c_ => ?_)
      · replace h := x_ie h c_
        exact b_MD_read_247 h
      · replace h := x_it h c_
        refine x_iload_n d_MD_read_225 rfl rfl ?_
        refine x_bipush (v := 45) d_MD_read_226 (by decide) ?_
        refine x_icmp_ne (tgt := 265) d_MD_read_228 (by decide) (fun c_ => ?_) (fun c_ => ?_)
        · replace h := x_ie h c_
          exact b_MD_read_265 h
        · replace h := x_it h c_
          refine x_aload_n d_MD_read_231 rfl rfl ?_
          refine x_aload_n d_MD_read_232 rfl rfl ?_
          refine x_gI d_MD_read_233 (f_MD_70 rfl) sh_MD hp_MD rfl ?_
          refine x_iconst (v := 1) d_MD_read_236 (by decide) ?_
          refine x_iadd d_MD_read_237 ?_
          obtain ⟨r238, e238, h⟩ := x_bd h
          refine x_cVi (M2 := M_MD_look) (As := [.int ((r219.2.1 387 7) + 1)]) (st := []) d_MD_read_238 w_1244 k_MD_look (c_MD_look e238) rfl sh_MD hp_MD rfl ⟨Nat.le_of_ble_eq_true rfl, Nat.le_of_ble_eq_true rfl⟩ (Nat.le_of_ble_eq_true rfl) (Nat.le_of_ble_eq_true rfl) rfl ?_
          obtain ⟨r241, e241, h⟩ := x_bd h
          refine x_cSi (M2 := M_MD_isDigit) (As := [.int r238.1]) (st := []) d_MD_read_241 w_1251 k_MD_isDigit (c_MD_isDigit e241) rfl ⟨Nat.le_of_ble_eq_true rfl, Nat.le_of_ble_eq_true rfl⟩ (Nat.le_of_ble_eq_true rfl) (Nat.le_of_ble_eq_true rfl) rfl ?_
          refine x_if_eq (tgt := 265) d_MD_read_244 (by decide) (fun c_ => ?_) (fun c_ => ?_)
          · replace h := x_it h c_
            exact b_MD_read_265 h
          · replace h := x_ie h c_
            exact b_MD_read_247 h
    · replace h := x_ie h c_
      refine x_sbk [0] (lv2 := [(0, .ref 387)]) rfl ?_; exact b_MD_read_137 _ _ h
  · replace h := x_it h c_
    refine x_aload_n d_MD_read_122 rfl rfl ?_
    refine x_iconst (v := 0) d_MD_read_123 (by decide) ?_
    refine x_pI d_MD_read_124 (f_MD_86 rfl) tb_MD rfl sh_MD hp_MD rfl ⟨rfl, rfl⟩ ?_
    refine x_goto (tgt := 275) d_MD_read_127 (by decide) ?_
    refine x_sbk [] (lv2 := []) rfl ?_; exact b_MD_read_275 h
def B_MD_read_71  (K8 : x_m → Option (x_m))  (m : x_m) : Option (x_m) := K8 (x_wS m 387 7 ((m.1 387 7) + 1))
theorem b_MD_read_71 {G : x_G} {ex : Bool} {r : x_m}  {K8 : x_m → Option (x_m)} (hK8 : ∀  (m : x_m), K8 m = some r → x_W G M_MD_read (x_rd 5) (x_Q G (x_rd 5) ex (x_pv r)) ex x_np (x_hp m) 0 0 [(0, .ref 387)] [] 8)  {m : x_m} (h : B_MD_read_71 K8 m = some r) : x_W G M_MD_read (x_rd 5) (x_Q G (x_rd 5) ex (x_pv r)) ex x_np (x_hp m) 0 0 [(0, .ref 387)] [] 71 := by
  unfold B_MD_read_71 at h
  refine x_aload_n d_MD_read_71 rfl rfl ?_
  refine x_dup d_MD_read_72 rfl ?_
  refine x_gI d_MD_read_73 (f_MD_70 rfl) sh_MD hp_MD rfl ?_
  refine x_iconst (v := 1) d_MD_read_76 (by decide) ?_
  refine x_iadd d_MD_read_77 ?_
  refine x_pI d_MD_read_78 (f_MD_70 rfl) tb_MD rfl sh_MD hp_MD rfl ⟨rfl, rfl⟩ ?_
  refine x_goto (tgt := 8) d_MD_read_81 (by decide) ?_
  exact hK8 _ h
def B_MD_read_8   : Nat → x_m → Option (x_m)
  | 0, _ => none
  | f_ + 1, m => (if (m.1 387 4) ≤ (m.1 387 7) then B_MD_read_84 m else ((F_MD_look (m.1 387 7) m).bind fun r24 => (if r24.1 = 32 then B_MD_read_71 (B_MD_read_8 f_) r24.2 else ((F_MD_look (r24.2.1 387 7) r24.2).bind fun r37 => (if r37.1 = 9 then B_MD_read_71 (B_MD_read_8 f_) r37.2 else ((F_MD_look (r37.2.1 387 7) r37.2).bind fun r50 => (if r50.1 = 10 then B_MD_read_71 (B_MD_read_8 f_) r50.2 else ((F_MD_look (r50.2.1 387 7) r50.2).bind fun r63 => (if r63.1 = 13 then B_MD_read_71 (B_MD_read_8 f_) r63.2 else B_MD_read_84 r63.2)))))))))
theorem b_MD_read_8 {G : x_G} {ex : Bool} {r : x_m}   : ∀ (f_ : Nat)  (m : x_m), B_MD_read_8 f_ m = some r → x_W G M_MD_read (x_rd 5) (x_Q G (x_rd 5) ex (x_pv r)) ex x_np (x_hp m) 0 0 [(0, .ref 387)] [] 8 := by
  intro f_
  induction f_ with
  | zero => intro m h; exact nomatch h
  | succ f_ ih =>
    intro m h
    rw [B_MD_read_8] at h
    have hK8 := ih
    refine x_aload_n d_MD_read_8 rfl rfl ?_
    refine x_gI d_MD_read_9 (f_MD_70 rfl) sh_MD hp_MD rfl ?_
    refine x_aload_n d_MD_read_12 rfl rfl ?_
    refine x_gI d_MD_read_13 (f_MD_60 rfl) sh_MD hp_MD rfl ?_
    refine x_icmp_ge (tgt := 84) d_MD_read_16 (by decide) (fun c_ => ?_) (fun c_ => ?_)
    · replace h := x_it h c_
      exact b_MD_read_84 h
    · replace h := x_ie h c_
      refine x_aload_n d_MD_read_19 rfl rfl ?_
      refine x_aload_n d_MD_read_20 rfl rfl ?_
      refine x_gI d_MD_read_21 (f_MD_70 rfl) sh_MD hp_MD rfl ?_
      obtain ⟨r24, e24, h⟩ := x_bd h
      refine x_cVi (M2 := M_MD_look) (As := [.int (m.1 387 7)]) (st := []) d_MD_read_24 w_1244 k_MD_look (c_MD_look e24) rfl sh_MD hp_MD rfl ⟨Nat.le_of_ble_eq_true rfl, Nat.le_of_ble_eq_true rfl⟩ (Nat.le_of_ble_eq_true rfl) (Nat.le_of_ble_eq_true rfl) rfl ?_
      refine x_bipush (v := 32) d_MD_read_27 (by decide) ?_
      refine x_icmp_eq (tgt := 71) d_MD_read_29 (by decide) (fun c_ => ?_) (fun c_ => ?_)
      · replace h := x_it h c_
        exact b_MD_read_71 hK8 h
      · replace h := x_ie h c_
        refine x_aload_n d_MD_read_32 rfl rfl ?_
        refine x_aload_n d_MD_read_33 rfl rfl ?_
        refine x_gI d_MD_read_34 (f_MD_70 rfl) sh_MD hp_MD rfl ?_
        obtain ⟨r37, e37, h⟩ := x_bd h
        refine x_cVi (M2 := M_MD_look) (As := [.int (r24.2.1 387 7)]) (st := []) d_MD_read_37 w_1244 k_MD_look (c_MD_look e37) rfl sh_MD hp_MD rfl ⟨Nat.le_of_ble_eq_true rfl, Nat.le_of_ble_eq_true rfl⟩ (Nat.le_of_ble_eq_true rfl) (Nat.le_of_ble_eq_true rfl) rfl ?_
        refine x_bipush (v := 9) d_MD_read_40 (by decide) ?_
        refine x_icmp_eq (tgt := 71) d_MD_read_42 (by decide) (fun c_ => ?_) (fun c_ => ?_)
        · replace h := x_it h c_
          exact b_MD_read_71 hK8 h
        · replace h := x_ie h c_
          refine x_aload_n d_MD_read_45 rfl rfl ?_
          refine x_aload_n d_MD_read_46 rfl rfl ?_
          refine x_gI d_MD_read_47 (f_MD_70 rfl) sh_MD hp_MD rfl ?_
          obtain ⟨r50, e50, h⟩ := x_bd h
          refine x_cVi (M2 := M_MD_look) (As := [.int (r37.2.1 387 7)]) (st := []) d_MD_read_50 w_1244 k_MD_look (c_MD_look e50) rfl sh_MD hp_MD rfl ⟨Nat.le_of_ble_eq_true rfl, Nat.le_of_ble_eq_true rfl⟩ (Nat.le_of_ble_eq_true rfl) (Nat.le_of_ble_eq_true rfl) rfl ?_
          refine x_bipush (v := 10) d_MD_read_53 (by decide) ?_
          refine x_icmp_eq (tgt := 71) d_MD_read_55 (by decide) (fun c_ => ?_) (fun c_ => ?_)
          · replace h := x_it h c_
            exact b_MD_read_71 hK8 h
          · replace h := x_ie h c_
            refine x_aload_n d_MD_read_58 rfl rfl ?_
            refine x_aload_n d_MD_read_59 rfl rfl ?_
            refine x_gI d_MD_read_60 (f_MD_70 rfl) sh_MD hp_MD rfl ?_
            obtain ⟨r63, e63, h⟩ := x_bd h
            refine x_cVi (M2 := M_MD_look) (As := [.int (r50.2.1 387 7)]) (st := []) d_MD_read_63 w_1244 k_MD_look (c_MD_look e63) rfl sh_MD hp_MD rfl ⟨Nat.le_of_ble_eq_true rfl, Nat.le_of_ble_eq_true rfl⟩ (Nat.le_of_ble_eq_true rfl) (Nat.le_of_ble_eq_true rfl) rfl ?_
            refine x_bipush (v := 13) d_MD_read_66 (by decide) ?_
            refine x_icmp_ne (tgt := 84) d_MD_read_68 (by decide) (fun c_ => ?_) (fun c_ => ?_)
            · replace h := x_ie h c_
              exact b_MD_read_84 h
            · replace h := x_it h c_
              exact b_MD_read_71 hK8 h
def F_MD_read   (m : x_m) : Option (x_m) := (if (m.1 387 5) ≤ 0 then B_MD_read_8 x_fu m else some m)
theorem c_MD_read {G : x_G} {ex : Bool} {r : x_m}   {m : x_m} (h : F_MD_read m = some r) : x_R G M_MD_read (x_rd 5) ex [.ref 387] x_np (x_hp m) (x_pv r) := by
  unfold F_MD_read at h
  show x_W G M_MD_read (x_rd 5) (x_Q G (x_rd 5) ex (x_pv r)) ex x_np (x_hp m) 0 0 [(0, .ref 387)] [] 0
  refine x_aload_n d_MD_read_0 rfl rfl ?_
  refine x_gI d_MD_read_1 (f_MD_67 rfl) sh_MD hp_MD rfl ?_
  refine x_if_le (tgt := 8) d_MD_read_4 (by decide) (fun c_ => ?_) (fun c_ => ?_)
  · replace h := x_it h c_
    exact b_MD_read_8 _ _ h
  · replace h := x_ie h c_
    cases h
    exact x_rv d_MD_read_7 rfl
def B_MD_isName_77   (l2 : Int32) (m : x_m) : Option (Int32 × x_m) := (if x_b1 l2 = true then some (l2, m) else none)
theorem b_MD_isName_77 {G : x_G} {ex : Bool} {r : Int32 × x_m}   {l2 : Int32} {m : x_m} (h : B_MD_isName_77 l2 m = some r) : x_W G M_MD_isName (x_rd 0) (x_Q G (x_rd 0) ex (x_pi r)) ex x_np (x_hp m) 0 0 [(2, .int l2)] [] 77 := by
  unfold B_MD_isName_77 at h
  refine x_iload_n d_MD_isName_77 rfl rfl ?_
  obtain ⟨g_78, h⟩ := x_gd h
  cases h
  exact x_ri d_MD_isName_78 rfl (x_b1_ok g_78).1
def B_MD_isName_70  (K26 : Int32 → Int32 → Int32 → x_m → Option (Int32 × x_m)) (l1 : Int32) (l3 : Int32) (s0 : Int32) (m : x_m) : Option (Int32 × x_m) := K26 l1 s0 (l3 + 1) m
theorem b_MD_isName_70 {G : x_G} {ex : Bool} {r : Int32 × x_m}  {K26 : Int32 → Int32 → Int32 → x_m → Option (Int32 × x_m)} (hK26 : ∀ (l1 : Int32) (l2 : Int32) (l3 : Int32) (m : x_m), K26 l1 l2 l3 m = some r → x_W G M_MD_isName (x_rd 0) (x_Q G (x_rd 0) ex (x_pi r)) ex x_np (x_hp m) 0 0 [(0, .ref 387), (1, .int l1), (2, .int l2), (3, .int l3)] [] 26) {l1 : Int32} {l3 : Int32} {s0 : Int32} {m : x_m} (h : B_MD_isName_70 K26 l1 l3 s0 m = some r) : x_W G M_MD_isName (x_rd 0) (x_Q G (x_rd 0) ex (x_pi r)) ex x_np (x_hp m) 0 0 [(0, .ref 387), (1, .int l1), (3, .int l3)] [.int s0] 70 := by
  unfold B_MD_isName_70 at h
  refine x_istore_n (lv2 := [(0, .ref 387), (1, .int l1), (2, .int s0), (3, .int l3)]) d_MD_isName_70 rfl (by decide) rfl ?_
  refine x_iinc (v := l3 + 1) (lv2 := [(0, .ref 387), (1, .int l1), (2, .int s0), (3, .int (l3 + 1))]) d_MD_isName_71 rfl rfl (by decide) rfl ?_
  refine x_goto (tgt := 26) d_MD_isName_74 (by decide) ?_
  exact hK26 _ _ _ _ h
def B_MD_isName_26   : Nat → Int32 → Int32 → Int32 → x_m → Option (Int32 × x_m)
  | 0, _, _, _, _ => none
  | f_ + 1, l1, l2, l3, m => (if x_ix l1 48 = true then (if (m.2.1 394 l1.toNatClampNeg) ≤ l3 then B_MD_isName_77 l2 m else (if l2 = 0 then B_MD_isName_77 l2 m else (if x_ix ((40 * l1) + l3) 1920 = true then (if x_ix ((m.1 387 8) + l3) 65536 = true then (if (m.2.1 393 ((40 * l1) + l3).toNatClampNeg) = (m.2.1 388 ((m.1 387 8) + l3).toNatClampNeg) then B_MD_isName_70 (B_MD_isName_26 f_) l1 l3 1 m else B_MD_isName_70 (B_MD_isName_26 f_) l1 l3 0 m) else none) else none))) else none)
theorem b_MD_isName_26 {G : x_G} {ex : Bool} {r : Int32 × x_m}   : ∀ (f_ : Nat) (l1 : Int32) (l2 : Int32) (l3 : Int32) (m : x_m), B_MD_isName_26 f_ l1 l2 l3 m = some r → x_W G M_MD_isName (x_rd 0) (x_Q G (x_rd 0) ex (x_pi r)) ex x_np (x_hp m) 0 0 [(0, .ref 387), (1, .int l1), (2, .int l2), (3, .int l3)] [] 26 := by
  intro f_
  induction f_ with
  | zero => intro l1 l2 l3 m h; exact nomatch h
  | succ f_ ih =>
    intro l1 l2 l3 m h
    rw [B_MD_isName_26] at h
    have hK26 := ih
    refine x_iload_n d_MD_isName_26 rfl rfl ?_
    refine x_aload_n d_MD_isName_27 rfl rfl ?_
    refine x_gC d_MD_isName_28 (f_MD_40 rfl) sh_MD hp_MD rfl ?_
    refine x_iload_n d_MD_isName_31 rfl rfl ?_
    obtain ⟨g_32, h⟩ := x_gd h
    refine x_lI d_MD_isName_32 rfl sa_MD_lengths ha_MD_lengths g_32 ?_
    refine x_icmp_ge (tgt := 77) d_MD_isName_33 (by decide) (fun c_ => ?_) (fun c_ => ?_)
    · replace h := x_it h c_
      refine x_sbk [2] (lv2 := [(2, .int l2)]) rfl ?_; exact b_MD_isName_77 h
    · replace h := x_ie h c_
      refine x_iload_n d_MD_isName_36 rfl rfl ?_
      refine x_if_eq (tgt := 77) d_MD_isName_37 (by decide) (fun c_ => ?_) (fun c_ => ?_)
      · replace h := x_it h c_
        refine x_sbk [2] (lv2 := [(2, .int l2)]) rfl ?_; exact b_MD_isName_77 h
      · replace h := x_ie h c_
        refine x_aload_n d_MD_isName_40 rfl rfl ?_
        refine x_gC d_MD_isName_41 (f_MD_37 rfl) sh_MD hp_MD rfl ?_
        refine x_bipush (v := 40) d_MD_isName_44 (by decide) ?_
        refine x_iload_n d_MD_isName_46 rfl rfl ?_
        refine x_imul d_MD_isName_47 ?_
        refine x_iload_n d_MD_isName_48 rfl rfl ?_
        refine x_iadd d_MD_isName_49 ?_
        obtain ⟨g_50, h⟩ := x_gd h
        refine x_lB d_MD_isName_50 rfl sa_MD_letters ha_MD_letters g_50 ?_
        refine x_aload_n d_MD_isName_51 rfl rfl ?_
        refine x_gC d_MD_isName_52 (f_MD_16 rfl) sh_MD hp_MD rfl ?_
        refine x_aload_n d_MD_isName_55 rfl rfl ?_
        refine x_gI d_MD_isName_56 (f_MD_77 rfl) sh_MD hp_MD rfl ?_
        refine x_iload_n d_MD_isName_59 rfl rfl ?_
        refine x_iadd d_MD_isName_60 ?_
        obtain ⟨g_61, h⟩ := x_gd h
        refine x_lB d_MD_isName_61 rfl sa_MD_text ha_MD_text g_61 ?_
        refine x_icmp_ne (tgt := 69) d_MD_isName_62 (by decide) (fun c_ => ?_) (fun c_ => ?_)
        · replace h := x_ie h c_
          refine x_iconst (v := 0) d_MD_isName_69 (by decide) ?_
          refine x_sbk [0, 1, 3] (lv2 := [(0, .ref 387), (1, .int l1), (3, .int l3)]) rfl ?_; exact b_MD_isName_70 hK26 h
        · replace h := x_it h c_
          refine x_iconst (v := 1) d_MD_isName_65 (by decide) ?_
          refine x_goto (tgt := 70) d_MD_isName_66 (by decide) ?_
          refine x_sbk [0, 1, 3] (lv2 := [(0, .ref 387), (1, .int l1), (3, .int l3)]) rfl ?_; exact b_MD_isName_70 hK26 h
def B_MD_isName_23   (l1 : Int32) (s0 : Int32) (m : x_m) : Option (Int32 × x_m) := B_MD_isName_26 x_fu l1 s0 0 m
theorem b_MD_isName_23 {G : x_G} {ex : Bool} {r : Int32 × x_m}   {l1 : Int32} {s0 : Int32} {m : x_m} (h : B_MD_isName_23 l1 s0 m = some r) : x_W G M_MD_isName (x_rd 0) (x_Q G (x_rd 0) ex (x_pi r)) ex x_np (x_hp m) 0 0 [(0, .ref 387), (1, .int l1)] [.int s0] 23 := by
  unfold B_MD_isName_23 at h
  refine x_istore_n (lv2 := [(0, .ref 387), (1, .int l1), (2, .int s0)]) d_MD_isName_23 rfl (by decide) rfl ?_
  refine x_iconst (v := 0) d_MD_isName_24 (by decide) ?_
  refine x_istore_n (lv2 := [(0, .ref 387), (1, .int l1), (2, .int s0), (3, .int 0)]) d_MD_isName_25 rfl (by decide) rfl ?_
  exact b_MD_isName_26 _ _ _ _ _ h
def F_MD_isName  (a1 : Int32) (m : x_m) : Option (Int32 × x_m) := (if x_ix a1 48 = true then (if (m.2.1 394 a1.toNatClampNeg) = ((m.1 387 7) - (m.1 387 8)) then B_MD_isName_23 a1 1 m else B_MD_isName_23 a1 0 m) else none)
theorem c_MD_isName {G : x_G} {ex : Bool} {r : Int32 × x_m}  {a1 : Int32} {m : x_m} (h : F_MD_isName a1 m = some r) : x_R G M_MD_isName (x_rd 0) ex [.ref 387, .int a1] x_np (x_hp m) (x_pi r) := by
  unfold F_MD_isName at h
  show x_W G M_MD_isName (x_rd 0) (x_Q G (x_rd 0) ex (x_pi r)) ex x_np (x_hp m) 0 0 [(0, .ref 387), (1, .int a1)] [] 0
  refine x_aload_n d_MD_isName_0 rfl rfl ?_
  refine x_gC d_MD_isName_1 (f_MD_40 rfl) sh_MD hp_MD rfl ?_
  refine x_iload_n d_MD_isName_4 rfl rfl ?_
  obtain ⟨g_5, h⟩ := x_gd h
  refine x_lI d_MD_isName_5 rfl sa_MD_lengths ha_MD_lengths g_5 ?_
  refine x_aload_n d_MD_isName_6 rfl rfl ?_
  refine x_gI d_MD_isName_7 (f_MD_70 rfl) sh_MD hp_MD rfl ?_
  refine x_aload_n d_MD_isName_10 rfl rfl ?_
  refine x_gI d_MD_isName_11 (f_MD_77 rfl) sh_MD hp_MD rfl ?_
  refine x_isub d_MD_isName_14 ?_
  refine x_icmp_ne (tgt := 22) d_MD_isName_15 (by decide) (fun c_ => ?_) (fun c_ => ?_)
  · replace h := x_ie h c_
    refine x_iconst (v := 0) d_MD_isName_22 (by decide) ?_
    exact b_MD_isName_23 h
  · replace h := x_it h c_
    refine x_iconst (v := 1) d_MD_isName_18 (by decide) ?_
    refine x_goto (tgt := 23) d_MD_isName_19 (by decide) ?_
    exact b_MD_isName_23 h
