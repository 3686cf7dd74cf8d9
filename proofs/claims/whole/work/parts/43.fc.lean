def M_QR_feed : x_M := (⟨"QuestionReader", "feed", "(IIIII)I"⟩, prog_1_method_2_code, 6, some (.int), [])
theorem d_QR_feed_0 : decode M_QR_feed.2.1 0 = .ok (.aload_n 0, 1) := by decide +kernel
theorem d_QR_feed_1 : decode M_QR_feed.2.1 1 = .ok (.getfield 10, 3) := by decide +kernel
theorem d_QR_feed_4 : decode M_QR_feed.2.1 4 = .ok (.getfield 48, 3) := by decide +kernel
theorem d_QR_feed_7 : decode M_QR_feed.2.1 7 = .ok (.ldc 52, 2) := by decide +kernel
theorem d_QR_feed_9 : decode M_QR_feed.2.1 9 = .ok (.if_icmp .le 13, 3) := by decide +kernel
theorem d_QR_feed_12 : decode M_QR_feed.2.1 12 = .ok (.new 53, 3) := by decide +kernel
theorem d_QR_feed_15 : decode M_QR_feed.2.1 15 = .ok (.dup, 1) := by decide +kernel
theorem d_QR_feed_16 : decode M_QR_feed.2.1 16 = .ok (.ldc 55, 2) := by decide +kernel
theorem d_QR_feed_18 : decode M_QR_feed.2.1 18 = .ok (.invokespecial 57, 3) := by decide +kernel
theorem d_QR_feed_21 : decode M_QR_feed.2.1 21 = .ok (.athrow, 1) := by decide +kernel
theorem d_QR_feed_22 : decode M_QR_feed.2.1 22 = .ok (.aload_n 0, 1) := by decide +kernel
theorem d_QR_feed_23 : decode M_QR_feed.2.1 23 = .ok (.getfield 10, 3) := by decide +kernel
theorem d_QR_feed_26 : decode M_QR_feed.2.1 26 = .ok (.iload_n 1, 1) := by decide +kernel
theorem d_QR_feed_27 : decode M_QR_feed.2.1 27 = .ok (.invokevirtual 60, 3) := by decide +kernel
theorem d_QR_feed_30 : decode M_QR_feed.2.1 30 = .ok (.aload_n 0, 1) := by decide +kernel
theorem d_QR_feed_31 : decode M_QR_feed.2.1 31 = .ok (.getfield 10, 3) := by decide +kernel
theorem d_QR_feed_34 : decode M_QR_feed.2.1 34 = .ok (.iload_n 2, 1) := by decide +kernel
theorem d_QR_feed_35 : decode M_QR_feed.2.1 35 = .ok (.invokevirtual 60, 3) := by decide +kernel
theorem d_QR_feed_38 : decode M_QR_feed.2.1 38 = .ok (.aload_n 0, 1) := by decide +kernel
theorem d_QR_feed_39 : decode M_QR_feed.2.1 39 = .ok (.getfield 10, 3) := by decide +kernel
theorem d_QR_feed_42 : decode M_QR_feed.2.1 42 = .ok (.iload_n 3, 1) := by decide +kernel
theorem d_QR_feed_43 : decode M_QR_feed.2.1 43 = .ok (.invokevirtual 60, 3) := by decide +kernel
theorem d_QR_feed_46 : decode M_QR_feed.2.1 46 = .ok (.aload_n 0, 1) := by decide +kernel
theorem d_QR_feed_47 : decode M_QR_feed.2.1 47 = .ok (.getfield 10, 3) := by decide +kernel
theorem d_QR_feed_50 : decode M_QR_feed.2.1 50 = .ok (.iload 4, 2) := by decide +kernel
theorem d_QR_feed_52 : decode M_QR_feed.2.1 52 = .ok (.invokevirtual 60, 3) := by decide +kernel
theorem d_QR_feed_55 : decode M_QR_feed.2.1 55 = .ok (.aload_n 0, 1) := by decide +kernel
theorem d_QR_feed_56 : decode M_QR_feed.2.1 56 = .ok (.getfield 10, 3) := by decide +kernel
theorem d_QR_feed_59 : decode M_QR_feed.2.1 59 = .ok (.iload 5, 2) := by decide +kernel
theorem d_QR_feed_61 : decode M_QR_feed.2.1 61 = .ok (.invokevirtual 60, 3) := by decide +kernel
theorem d_QR_feed_64 : decode M_QR_feed.2.1 64 = .ok (.aload_n 0, 1) := by decide +kernel
theorem d_QR_feed_65 : decode M_QR_feed.2.1 65 = .ok (.getfield 10, 3) := by decide +kernel
theorem d_QR_feed_68 : decode M_QR_feed.2.1 68 = .ok (.getfield 48, 3) := by decide +kernel
theorem d_QR_feed_71 : decode M_QR_feed.2.1 71 = .ok (.ireturn, 1) := by decide +kernel
theorem k_QR_feed : x_kV M_QR_feed "QuestionReader" 5 := ⟨⟨by decide, Or.inl ⟨w_801, rfl⟩⟩, w_799, w_800, ⟨by decide, by decide⟩, by decide +kernel⟩
def M_QR_trim : x_M := (⟨"QuestionReader", "trim", "(I)I"⟩, prog_1_method_3_code, 2, some (.int), [])
theorem d_QR_trim_0 : decode M_QR_trim.2.1 0 = .ok (.iload_n 1, 1) := by decide +kernel
theorem d_QR_trim_1 : decode M_QR_trim.2.1 1 = .ok (.ifCond .lt 24, 3) := by decide +kernel
theorem d_QR_trim_4 : decode M_QR_trim.2.1 4 = .ok (.iload_n 1, 1) := by decide +kernel
theorem d_QR_trim_5 : decode M_QR_trim.2.1 5 = .ok (.bipush 20, 2) := by decide +kernel
theorem d_QR_trim_7 : decode M_QR_trim.2.1 7 = .ok (.if_icmp .gt 18, 3) := by decide +kernel
theorem d_QR_trim_10 : decode M_QR_trim.2.1 10 = .ok (.iload_n 1, 1) := by decide +kernel
theorem d_QR_trim_11 : decode M_QR_trim.2.1 11 = .ok (.aload_n 0, 1) := by decide +kernel
theorem d_QR_trim_12 : decode M_QR_trim.2.1 12 = .ok (.getfield 10, 3) := by decide +kernel
theorem d_QR_trim_15 : decode M_QR_trim.2.1 15 = .ok (.getfield 48, 3) := by decide +kernel
theorem d_QR_trim_18 : decode M_QR_trim.2.1 18 = .ok (.if_icmp .gt 7, 3) := by decide +kernel
theorem d_QR_trim_21 : decode M_QR_trim.2.1 21 = .ok (.iconst 1, 1) := by decide +kernel
theorem d_QR_trim_22 : decode M_QR_trim.2.1 22 = .ok (.goto 4, 3) := by decide +kernel
theorem d_QR_trim_25 : decode M_QR_trim.2.1 25 = .ok (.iconst 0, 1) := by decide +kernel
theorem d_QR_trim_26 : decode M_QR_trim.2.1 26 = .ok (.invokestatic 64, 3) := by decide +kernel
theorem d_QR_trim_29 : decode M_QR_trim.2.1 29 = .ok (.aload_n 0, 1) := by decide +kernel
theorem d_QR_trim_30 : decode M_QR_trim.2.1 30 = .ok (.getfield 10, 3) := by decide +kernel
theorem d_QR_trim_33 : decode M_QR_trim.2.1 33 = .ok (.dup, 1) := by decide +kernel
theorem d_QR_trim_34 : decode M_QR_trim.2.1 34 = .ok (.getfield 48, 3) := by decide +kernel
theorem d_QR_trim_37 : decode M_QR_trim.2.1 37 = .ok (.iload_n 1, 1) := by decide +kernel
theorem d_QR_trim_38 : decode M_QR_trim.2.1 38 = .ok (.isub, 1) := by decide +kernel
theorem d_QR_trim_39 : decode M_QR_trim.2.1 39 = .ok (.putfield 48, 3) := by decide +kernel
theorem d_QR_trim_42 : decode M_QR_trim.2.1 42 = .ok (.aload_n 0, 1) := by decide +kernel
theorem d_QR_trim_43 : decode M_QR_trim.2.1 43 = .ok (.getfield 10, 3) := by decide +kernel
theorem d_QR_trim_46 : decode M_QR_trim.2.1 46 = .ok (.getfield 48, 3) := by decide +kernel
theorem d_QR_trim_49 : decode M_QR_trim.2.1 49 = .ok (.ireturn, 1) := by decide +kernel
theorem k_QR_trim : x_kV M_QR_trim "QuestionReader" 1 := ⟨⟨by decide, Or.inl ⟨w_880, rfl⟩⟩, w_878, w_879, ⟨by decide, by decide⟩, by decide +kernel⟩
def M_QR_fault : x_M := (⟨"QuestionReader", "fault", "(I)I"⟩, prog_1_method_5_code, 2, some (.int), [])
theorem d_QR_fault_0 : decode M_QR_fault.2.1 0 = .ok (.iload_n 1, 1) := by decide +kernel
theorem d_QR_fault_1 : decode M_QR_fault.2.1 1 = .ok (.ifCond .eq 8, 3) := by decide +kernel
theorem d_QR_fault_4 : decode M_QR_fault.2.1 4 = .ok (.iload_n 1, 1) := by decide +kernel
theorem d_QR_fault_5 : decode M_QR_fault.2.1 5 = .ok (.iconst 1, 1) := by decide +kernel
theorem d_QR_fault_6 : decode M_QR_fault.2.1 6 = .ok (.if_icmp .ne 7, 3) := by decide +kernel
theorem d_QR_fault_9 : decode M_QR_fault.2.1 9 = .ok (.iconst 1, 1) := by decide +kernel
theorem d_QR_fault_10 : decode M_QR_fault.2.1 10 = .ok (.goto 4, 3) := by decide +kernel
theorem d_QR_fault_13 : decode M_QR_fault.2.1 13 = .ok (.iconst 0, 1) := by decide +kernel
theorem d_QR_fault_14 : decode M_QR_fault.2.1 14 = .ok (.invokestatic 64, 3) := by decide +kernel
theorem d_QR_fault_17 : decode M_QR_fault.2.1 17 = .ok (.iload_n 1, 1) := by decide +kernel
theorem d_QR_fault_18 : decode M_QR_fault.2.1 18 = .ok (.ifCond .ne 13, 3) := by decide +kernel
theorem d_QR_fault_21 : decode M_QR_fault.2.1 21 = .ok (.aload_n 0, 1) := by decide +kernel
theorem d_QR_fault_22 : decode M_QR_fault.2.1 22 = .ok (.getfield 21, 3) := by decide +kernel
theorem d_QR_fault_25 : decode M_QR_fault.2.1 25 = .ok (.getfield 102, 3) := by decide +kernel
theorem d_QR_fault_28 : decode M_QR_fault.2.1 28 = .ok (.goto 10, 3) := by decide +kernel
theorem d_QR_fault_31 : decode M_QR_fault.2.1 31 = .ok (.aload_n 0, 1) := by decide +kernel
theorem d_QR_fault_32 : decode M_QR_fault.2.1 32 = .ok (.getfield 21, 3) := by decide +kernel
theorem d_QR_fault_35 : decode M_QR_fault.2.1 35 = .ok (.getfield 105, 3) := by decide +kernel
theorem d_QR_fault_38 : decode M_QR_fault.2.1 38 = .ok (.ireturn, 1) := by decide +kernel
theorem k_QR_fault : x_kV M_QR_fault "QuestionReader" 1 := ⟨⟨by decide, Or.inl ⟨w_906, rfl⟩⟩, w_904, w_905, ⟨by decide, by decide⟩, by decide +kernel⟩
def M_QR_count : x_M := (⟨"QuestionReader", "count", "(I)I"⟩, prog_1_method_7_code, 3, some (.int), [])
theorem d_QR_count_0 : decode M_QR_count.2.1 0 = .ok (.aload_n 0, 1) := by decide +kernel
theorem d_QR_count_1 : decode M_QR_count.2.1 1 = .ok (.getfield 44, 3) := by decide +kernel
theorem d_QR_count_4 : decode M_QR_count.2.1 4 = .ok (.getfield 71, 3) := by decide +kernel
theorem d_QR_count_7 : decode M_QR_count.2.1 7 = .ok (.astore_n 2, 1) := by decide +kernel
theorem d_QR_count_8 : decode M_QR_count.2.1 8 = .ok (.iload_n 1, 1) := by decide +kernel
theorem d_QR_count_9 : decode M_QR_count.2.1 9 = .ok (.tableswitch 90 0 6 #[43, 51, 59, 67, 72, 77, 82], 43) := by decide +kernel
theorem d_QR_count_52 : decode M_QR_count.2.1 52 = .ok (.aload_n 0, 1) := by decide +kernel
theorem d_QR_count_53 : decode M_QR_count.2.1 53 = .ok (.getfield 28, 3) := by decide +kernel
theorem d_QR_count_56 : decode M_QR_count.2.1 56 = .ok (.getfield 111, 3) := by decide +kernel
theorem d_QR_count_59 : decode M_QR_count.2.1 59 = .ok (.ireturn, 1) := by decide +kernel
theorem d_QR_count_60 : decode M_QR_count.2.1 60 = .ok (.aload_n 0, 1) := by decide +kernel
theorem d_QR_count_61 : decode M_QR_count.2.1 61 = .ok (.getfield 28, 3) := by decide +kernel
theorem d_QR_count_64 : decode M_QR_count.2.1 64 = .ok (.getfield 114, 3) := by decide +kernel
theorem d_QR_count_67 : decode M_QR_count.2.1 67 = .ok (.ireturn, 1) := by decide +kernel
theorem d_QR_count_68 : decode M_QR_count.2.1 68 = .ok (.aload_n 0, 1) := by decide +kernel
theorem d_QR_count_69 : decode M_QR_count.2.1 69 = .ok (.getfield 10, 3) := by decide +kernel
theorem d_QR_count_72 : decode M_QR_count.2.1 72 = .ok (.getfield 48, 3) := by decide +kernel
theorem d_QR_count_75 : decode M_QR_count.2.1 75 = .ok (.ireturn, 1) := by decide +kernel
theorem d_QR_count_76 : decode M_QR_count.2.1 76 = .ok (.aload_n 2, 1) := by decide +kernel
theorem d_QR_count_77 : decode M_QR_count.2.1 77 = .ok (.getfield 117, 3) := by decide +kernel
theorem d_QR_count_80 : decode M_QR_count.2.1 80 = .ok (.ireturn, 1) := by decide +kernel
theorem d_QR_count_81 : decode M_QR_count.2.1 81 = .ok (.aload_n 2, 1) := by decide +kernel
theorem d_QR_count_82 : decode M_QR_count.2.1 82 = .ok (.getfield 120, 3) := by decide +kernel
theorem d_QR_count_85 : decode M_QR_count.2.1 85 = .ok (.ireturn, 1) := by decide +kernel
theorem d_QR_count_86 : decode M_QR_count.2.1 86 = .ok (.aload_n 2, 1) := by decide +kernel
theorem d_QR_count_87 : decode M_QR_count.2.1 87 = .ok (.getfield 123, 3) := by decide +kernel
theorem d_QR_count_90 : decode M_QR_count.2.1 90 = .ok (.ireturn, 1) := by decide +kernel
theorem d_QR_count_91 : decode M_QR_count.2.1 91 = .ok (.aload_n 2, 1) := by decide +kernel
theorem d_QR_count_92 : decode M_QR_count.2.1 92 = .ok (.getfield 126, 3) := by decide +kernel
theorem d_QR_count_95 : decode M_QR_count.2.1 95 = .ok (.getfield 130, 3) := by decide +kernel
theorem d_QR_count_98 : decode M_QR_count.2.1 98 = .ok (.ireturn, 1) := by decide +kernel
theorem d_QR_count_99 : decode M_QR_count.2.1 99 = .ok (.new 135, 3) := by decide +kernel
theorem d_QR_count_102 : decode M_QR_count.2.1 102 = .ok (.dup, 1) := by decide +kernel
theorem d_QR_count_103 : decode M_QR_count.2.1 103 = .ok (.ldc 137, 2) := by decide +kernel
theorem d_QR_count_105 : decode M_QR_count.2.1 105 = .ok (.invokespecial 139, 3) := by decide +kernel
theorem d_QR_count_108 : decode M_QR_count.2.1 108 = .ok (.athrow, 1) := by decide +kernel
theorem k_QR_count : x_kV M_QR_count "QuestionReader" 1 := ⟨⟨by decide, Or.inl ⟨w_913, rfl⟩⟩, w_911, w_912, ⟨by decide, by decide⟩, by decide +kernel⟩
def M_QR_dimension : x_M := (⟨"QuestionReader", "dimension", "(II)I"⟩, prog_1_method_8_code, 4, some (.int), [])
theorem d_QR_dimension_0 : decode M_QR_dimension.2.1 0 = .ok (.aload_n 0, 1) := by decide +kernel
theorem d_QR_dimension_1 : decode M_QR_dimension.2.1 1 = .ok (.getfield 28, 3) := by decide +kernel
theorem d_QR_dimension_4 : decode M_QR_dimension.2.1 4 = .ok (.iload_n 1, 1) := by decide +kernel
theorem d_QR_dimension_5 : decode M_QR_dimension.2.1 5 = .ok (.invokevirtual 140, 3) := by decide +kernel
theorem d_QR_dimension_8 : decode M_QR_dimension.2.1 8 = .ok (.ifCond .eq 16, 3) := by decide +kernel
theorem d_QR_dimension_11 : decode M_QR_dimension.2.1 11 = .ok (.iload_n 2, 1) := by decide +kernel
theorem d_QR_dimension_12 : decode M_QR_dimension.2.1 12 = .ok (.ifCond .eq 8, 3) := by decide +kernel
theorem d_QR_dimension_15 : decode M_QR_dimension.2.1 15 = .ok (.iload_n 2, 1) := by decide +kernel
theorem d_QR_dimension_16 : decode M_QR_dimension.2.1 16 = .ok (.iconst 1, 1) := by decide +kernel
theorem d_QR_dimension_17 : decode M_QR_dimension.2.1 17 = .ok (.if_icmp .ne 7, 3) := by decide +kernel
theorem d_QR_dimension_20 : decode M_QR_dimension.2.1 20 = .ok (.iconst 1, 1) := by decide +kernel
theorem d_QR_dimension_21 : decode M_QR_dimension.2.1 21 = .ok (.goto 4, 3) := by decide +kernel
theorem d_QR_dimension_24 : decode M_QR_dimension.2.1 24 = .ok (.iconst 0, 1) := by decide +kernel
theorem d_QR_dimension_25 : decode M_QR_dimension.2.1 25 = .ok (.invokestatic 64, 3) := by decide +kernel
theorem d_QR_dimension_28 : decode M_QR_dimension.2.1 28 = .ok (.aload_n 0, 1) := by decide +kernel
theorem d_QR_dimension_29 : decode M_QR_dimension.2.1 29 = .ok (.getfield 28, 3) := by decide +kernel
theorem d_QR_dimension_32 : decode M_QR_dimension.2.1 32 = .ok (.getfield 144, 3) := by decide +kernel
theorem d_QR_dimension_35 : decode M_QR_dimension.2.1 35 = .ok (.iload_n 1, 1) := by decide +kernel
theorem d_QR_dimension_36 : decode M_QR_dimension.2.1 36 = .ok (.aaload, 1) := by decide +kernel
theorem d_QR_dimension_37 : decode M_QR_dimension.2.1 37 = .ok (.astore_n 3, 1) := by decide +kernel
theorem d_QR_dimension_38 : decode M_QR_dimension.2.1 38 = .ok (.iload_n 2, 1) := by decide +kernel
theorem d_QR_dimension_39 : decode M_QR_dimension.2.1 39 = .ok (.ifCond .ne 10, 3) := by decide +kernel
theorem d_QR_dimension_42 : decode M_QR_dimension.2.1 42 = .ok (.aload_n 3, 1) := by decide +kernel
theorem d_QR_dimension_43 : decode M_QR_dimension.2.1 43 = .ok (.getfield 148, 3) := by decide +kernel
theorem d_QR_dimension_46 : decode M_QR_dimension.2.1 46 = .ok (.goto 7, 3) := by decide +kernel
theorem d_QR_dimension_49 : decode M_QR_dimension.2.1 49 = .ok (.aload_n 3, 1) := by decide +kernel
theorem d_QR_dimension_50 : decode M_QR_dimension.2.1 50 = .ok (.getfield 153, 3) := by decide +kernel
theorem d_QR_dimension_53 : decode M_QR_dimension.2.1 53 = .ok (.ireturn, 1) := by decide +kernel
theorem k_QR_dimension : x_kV M_QR_dimension "QuestionReader" 2 := ⟨⟨by decide, Or.inl ⟨w_921, rfl⟩⟩, w_919, w_920, ⟨by decide, by decide⟩, by decide +kernel⟩
def M_QR_value : x_M := (⟨"QuestionReader", "value", "(III)I"⟩, prog_1_method_9_code, 4, some (.int), [])
theorem d_QR_value_0 : decode M_QR_value.2.1 0 = .ok (.aload_n 0, 1) := by decide +kernel
theorem d_QR_value_1 : decode M_QR_value.2.1 1 = .ok (.getfield 28, 3) := by decide +kernel
theorem d_QR_value_4 : decode M_QR_value.2.1 4 = .ok (.iload_n 1, 1) := by decide +kernel
theorem d_QR_value_5 : decode M_QR_value.2.1 5 = .ok (.iload_n 2, 1) := by decide +kernel
theorem d_QR_value_6 : decode M_QR_value.2.1 6 = .ok (.invokevirtual 156, 3) := by decide +kernel
theorem d_QR_value_9 : decode M_QR_value.2.1 9 = .ok (.ifCond .eq 19, 3) := by decide +kernel
theorem d_QR_value_12 : decode M_QR_value.2.1 12 = .ok (.aload_n 0, 1) := by decide +kernel
theorem d_QR_value_13 : decode M_QR_value.2.1 13 = .ok (.getfield 28, 3) := by decide +kernel
theorem d_QR_value_16 : decode M_QR_value.2.1 16 = .ok (.iload_n 1, 1) := by decide +kernel
theorem d_QR_value_17 : decode M_QR_value.2.1 17 = .ok (.iload_n 3, 1) := by decide +kernel
theorem d_QR_value_18 : decode M_QR_value.2.1 18 = .ok (.invokevirtual 160, 3) := by decide +kernel
theorem d_QR_value_21 : decode M_QR_value.2.1 21 = .ok (.ifCond .eq 7, 3) := by decide +kernel
theorem d_QR_value_24 : decode M_QR_value.2.1 24 = .ok (.iconst 1, 1) := by decide +kernel
theorem d_QR_value_25 : decode M_QR_value.2.1 25 = .ok (.goto 4, 3) := by decide +kernel
theorem d_QR_value_28 : decode M_QR_value.2.1 28 = .ok (.iconst 0, 1) := by decide +kernel
theorem d_QR_value_29 : decode M_QR_value.2.1 29 = .ok (.invokestatic 64, 3) := by decide +kernel
theorem d_QR_value_32 : decode M_QR_value.2.1 32 = .ok (.aload_n 0, 1) := by decide +kernel
theorem d_QR_value_33 : decode M_QR_value.2.1 33 = .ok (.getfield 28, 3) := by decide +kernel
theorem d_QR_value_36 : decode M_QR_value.2.1 36 = .ok (.getfield 144, 3) := by decide +kernel
theorem d_QR_value_39 : decode M_QR_value.2.1 39 = .ok (.iload_n 1, 1) := by decide +kernel
theorem d_QR_value_40 : decode M_QR_value.2.1 40 = .ok (.aaload, 1) := by decide +kernel
theorem d_QR_value_41 : decode M_QR_value.2.1 41 = .ok (.iload_n 2, 1) := by decide +kernel
theorem d_QR_value_42 : decode M_QR_value.2.1 42 = .ok (.iload_n 3, 1) := by decide +kernel
theorem d_QR_value_43 : decode M_QR_value.2.1 43 = .ok (.invokevirtual 163, 3) := by decide +kernel
theorem d_QR_value_46 : decode M_QR_value.2.1 46 = .ok (.ireturn, 1) := by decide +kernel
theorem k_QR_value : x_kV M_QR_value "QuestionReader" 3 := ⟨⟨by decide, Or.inl ⟨w_932, rfl⟩⟩, w_930, w_931, ⟨by decide, by decide⟩, by decide +kernel⟩
def M_QR_rank : x_M := (⟨"QuestionReader", "rank", "(III)I"⟩, prog_1_method_10_code, 5, some (.int), [])
theorem d_QR_rank_0 : decode M_QR_rank.2.1 0 = .ok (.aload_n 0, 1) := by decide +kernel
theorem d_QR_rank_1 : decode M_QR_rank.2.1 1 = .ok (.getfield 28, 3) := by decide +kernel
theorem d_QR_rank_4 : decode M_QR_rank.2.1 4 = .ok (.iload_n 1, 1) := by decide +kernel
theorem d_QR_rank_5 : decode M_QR_rank.2.1 5 = .ok (.iload_n 2, 1) := by decide +kernel
theorem d_QR_rank_6 : decode M_QR_rank.2.1 6 = .ok (.invokevirtual 156, 3) := by decide +kernel
theorem d_QR_rank_9 : decode M_QR_rank.2.1 9 = .ok (.ifCond .eq 24, 3) := by decide +kernel
theorem d_QR_rank_12 : decode M_QR_rank.2.1 12 = .ok (.iload_n 3, 1) := by decide +kernel
theorem d_QR_rank_13 : decode M_QR_rank.2.1 13 = .ok (.iconst (-1), 1) := by decide +kernel
theorem d_QR_rank_14 : decode M_QR_rank.2.1 14 = .ok (.if_icmp .eq 15, 3) := by decide +kernel
theorem d_QR_rank_17 : decode M_QR_rank.2.1 17 = .ok (.aload_n 0, 1) := by decide +kernel
theorem d_QR_rank_18 : decode M_QR_rank.2.1 18 = .ok (.getfield 28, 3) := by decide +kernel
theorem d_QR_rank_21 : decode M_QR_rank.2.1 21 = .ok (.iload_n 1, 1) := by decide +kernel
theorem d_QR_rank_22 : decode M_QR_rank.2.1 22 = .ok (.iload_n 3, 1) := by decide +kernel
theorem d_QR_rank_23 : decode M_QR_rank.2.1 23 = .ok (.invokevirtual 160, 3) := by decide +kernel
theorem d_QR_rank_26 : decode M_QR_rank.2.1 26 = .ok (.ifCond .eq 7, 3) := by decide +kernel
theorem d_QR_rank_29 : decode M_QR_rank.2.1 29 = .ok (.iconst 1, 1) := by decide +kernel
theorem d_QR_rank_30 : decode M_QR_rank.2.1 30 = .ok (.goto 4, 3) := by decide +kernel
theorem d_QR_rank_33 : decode M_QR_rank.2.1 33 = .ok (.iconst 0, 1) := by decide +kernel
theorem d_QR_rank_34 : decode M_QR_rank.2.1 34 = .ok (.invokestatic 64, 3) := by decide +kernel
theorem d_QR_rank_37 : decode M_QR_rank.2.1 37 = .ok (.aload_n 0, 1) := by decide +kernel
theorem d_QR_rank_38 : decode M_QR_rank.2.1 38 = .ok (.invokevirtual 167, 3) := by decide +kernel
theorem d_QR_rank_41 : decode M_QR_rank.2.1 41 = .ok (.aload_n 0, 1) := by decide +kernel
theorem d_QR_rank_42 : decode M_QR_rank.2.1 42 = .ok (.getfield 28, 3) := by decide +kernel
theorem d_QR_rank_45 : decode M_QR_rank.2.1 45 = .ok (.getfield 144, 3) := by decide +kernel
theorem d_QR_rank_48 : decode M_QR_rank.2.1 48 = .ok (.iload_n 1, 1) := by decide +kernel
theorem d_QR_rank_49 : decode M_QR_rank.2.1 49 = .ok (.aaload, 1) := by decide +kernel
theorem d_QR_rank_50 : decode M_QR_rank.2.1 50 = .ok (.astore 4, 2) := by decide +kernel
theorem d_QR_rank_52 : decode M_QR_rank.2.1 52 = .ok (.iload_n 3, 1) := by decide +kernel
theorem d_QR_rank_53 : decode M_QR_rank.2.1 53 = .ok (.iconst (-1), 1) := by decide +kernel
theorem d_QR_rank_54 : decode M_QR_rank.2.1 54 = .ok (.if_icmp .ne 10, 3) := by decide +kernel
theorem d_QR_rank_57 : decode M_QR_rank.2.1 57 = .ok (.aload 4, 2) := by decide +kernel
theorem d_QR_rank_59 : decode M_QR_rank.2.1 59 = .ok (.iload_n 2, 1) := by decide +kernel
theorem d_QR_rank_60 : decode M_QR_rank.2.1 60 = .ok (.invokevirtual 170, 3) := by decide +kernel
theorem d_QR_rank_63 : decode M_QR_rank.2.1 63 = .ok (.ireturn, 1) := by decide +kernel
theorem d_QR_rank_64 : decode M_QR_rank.2.1 64 = .ok (.aload 4, 2) := by decide +kernel
theorem d_QR_rank_66 : decode M_QR_rank.2.1 66 = .ok (.iload_n 2, 1) := by decide +kernel
theorem d_QR_rank_67 : decode M_QR_rank.2.1 67 = .ok (.aload 4, 2) := by decide +kernel
theorem d_QR_rank_69 : decode M_QR_rank.2.1 69 = .ok (.iload_n 2, 1) := by decide +kernel
theorem d_QR_rank_70 : decode M_QR_rank.2.1 70 = .ok (.iload_n 3, 1) := by decide +kernel
theorem d_QR_rank_71 : decode M_QR_rank.2.1 71 = .ok (.invokevirtual 163, 3) := by decide +kernel
theorem d_QR_rank_74 : decode M_QR_rank.2.1 74 = .ok (.invokevirtual 174, 3) := by decide +kernel
theorem d_QR_rank_77 : decode M_QR_rank.2.1 77 = .ok (.ireturn, 1) := by decide +kernel
theorem k_QR_rank : x_kV M_QR_rank "QuestionReader" 3 := ⟨⟨by decide, Or.inl ⟨w_952, rfl⟩⟩, w_950, w_951, ⟨by decide, by decide⟩, by decide +kernel⟩
def M_QR_find : x_M := (⟨"QuestionReader", "find", "(II)I"⟩, prog_1_method_11_code, 3, some (.int), [])
theorem d_QR_find_0 : decode M_QR_find.2.1 0 = .ok (.aload_n 0, 1) := by decide +kernel
theorem d_QR_find_1 : decode M_QR_find.2.1 1 = .ok (.getfield 28, 3) := by decide +kernel
theorem d_QR_find_4 : decode M_QR_find.2.1 4 = .ok (.iload_n 1, 1) := by decide +kernel
theorem d_QR_find_5 : decode M_QR_find.2.1 5 = .ok (.invokevirtual 140, 3) := by decide +kernel
theorem d_QR_find_8 : decode M_QR_find.2.1 8 = .ok (.invokestatic 64, 3) := by decide +kernel
theorem d_QR_find_11 : decode M_QR_find.2.1 11 = .ok (.aload_n 0, 1) := by decide +kernel
theorem d_QR_find_12 : decode M_QR_find.2.1 12 = .ok (.invokevirtual 167, 3) := by decide +kernel
theorem d_QR_find_15 : decode M_QR_find.2.1 15 = .ok (.aload_n 0, 1) := by decide +kernel
theorem d_QR_find_16 : decode M_QR_find.2.1 16 = .ok (.getfield 28, 3) := by decide +kernel
theorem d_QR_find_19 : decode M_QR_find.2.1 19 = .ok (.getfield 144, 3) := by decide +kernel
theorem d_QR_find_22 : decode M_QR_find.2.1 22 = .ok (.iload_n 1, 1) := by decide +kernel
theorem d_QR_find_23 : decode M_QR_find.2.1 23 = .ok (.aaload, 1) := by decide +kernel
theorem d_QR_find_24 : decode M_QR_find.2.1 24 = .ok (.iload_n 2, 1) := by decide +kernel
theorem d_QR_find_25 : decode M_QR_find.2.1 25 = .ok (.invokevirtual 177, 3) := by decide +kernel
theorem d_QR_find_28 : decode M_QR_find.2.1 28 = .ok (.ireturn, 1) := by decide +kernel
theorem k_QR_find : x_kV M_QR_find "QuestionReader" 2 := ⟨⟨by decide, Or.inl ⟨w_969, rfl⟩⟩, w_967, w_968, ⟨by decide, by decide⟩, by decide +kernel⟩
def M_QR_letter : x_M := (⟨"QuestionReader", "letter", "(II)I"⟩, prog_1_method_12_code, 3, some (.int), [])
theorem d_QR_letter_0 : decode M_QR_letter.2.1 0 = .ok (.aload_n 0, 1) := by decide +kernel
theorem d_QR_letter_1 : decode M_QR_letter.2.1 1 = .ok (.getfield 28, 3) := by decide +kernel
theorem d_QR_letter_4 : decode M_QR_letter.2.1 4 = .ok (.iload_n 1, 1) := by decide +kernel
theorem d_QR_letter_5 : decode M_QR_letter.2.1 5 = .ok (.invokevirtual 180, 3) := by decide +kernel
theorem d_QR_letter_8 : decode M_QR_letter.2.1 8 = .ok (.ifCond .eq 11, 3) := by decide +kernel
theorem d_QR_letter_11 : decode M_QR_letter.2.1 11 = .ok (.iload_n 2, 1) := by decide +kernel
theorem d_QR_letter_12 : decode M_QR_letter.2.1 12 = .ok (.ifCond .lt 7, 3) := by decide +kernel
theorem d_QR_letter_15 : decode M_QR_letter.2.1 15 = .ok (.iconst 1, 1) := by decide +kernel
theorem d_QR_letter_16 : decode M_QR_letter.2.1 16 = .ok (.goto 4, 3) := by decide +kernel
theorem d_QR_letter_19 : decode M_QR_letter.2.1 19 = .ok (.iconst 0, 1) := by decide +kernel
theorem d_QR_letter_20 : decode M_QR_letter.2.1 20 = .ok (.invokestatic 64, 3) := by decide +kernel
theorem d_QR_letter_23 : decode M_QR_letter.2.1 23 = .ok (.aload_n 0, 1) := by decide +kernel
theorem d_QR_letter_24 : decode M_QR_letter.2.1 24 = .ok (.getfield 28, 3) := by decide +kernel
theorem d_QR_letter_27 : decode M_QR_letter.2.1 27 = .ok (.getfield 183, 3) := by decide +kernel
theorem d_QR_letter_30 : decode M_QR_letter.2.1 30 = .ok (.iload_n 1, 1) := by decide +kernel
theorem d_QR_letter_31 : decode M_QR_letter.2.1 31 = .ok (.iload_n 2, 1) := by decide +kernel
theorem d_QR_letter_32 : decode M_QR_letter.2.1 32 = .ok (.invokevirtual 187, 3) := by decide +kernel
theorem d_QR_letter_35 : decode M_QR_letter.2.1 35 = .ok (.ireturn, 1) := by decide +kernel
theorem k_QR_letter : x_kV M_QR_letter "QuestionReader" 2 := ⟨⟨by decide, Or.inl ⟨w_980, rfl⟩⟩, w_978, w_979, ⟨by decide, by decide⟩, by decide +kernel⟩
def M_QR_item : x_M := (⟨"QuestionReader", "item", "(II)I"⟩, prog_1_method_13_code, 4, some (.int), [])
theorem d_QR_item_0 : decode M_QR_item.2.1 0 = .ok (.aload_n 0, 1) := by decide +kernel
theorem d_QR_item_1 : decode M_QR_item.2.1 1 = .ok (.getfield 44, 3) := by decide +kernel
theorem d_QR_item_4 : decode M_QR_item.2.1 4 = .ok (.getfield 71, 3) := by decide +kernel
theorem d_QR_item_7 : decode M_QR_item.2.1 7 = .ok (.astore_n 3, 1) := by decide +kernel
theorem d_QR_item_8 : decode M_QR_item.2.1 8 = .ok (.iload_n 1, 1) := by decide +kernel
theorem d_QR_item_9 : decode M_QR_item.2.1 9 = .ok (.ifCond .lt 24, 3) := by decide +kernel
theorem d_QR_item_12 : decode M_QR_item.2.1 12 = .ok (.iload_n 1, 1) := by decide +kernel
theorem d_QR_item_13 : decode M_QR_item.2.1 13 = .ok (.aload_n 3, 1) := by decide +kernel
theorem d_QR_item_14 : decode M_QR_item.2.1 14 = .ok (.getfield 117, 3) := by decide +kernel
theorem d_QR_item_17 : decode M_QR_item.2.1 17 = .ok (.if_icmp .ge 16, 3) := by decide +kernel
theorem d_QR_item_20 : decode M_QR_item.2.1 20 = .ok (.iload_n 2, 1) := by decide +kernel
theorem d_QR_item_21 : decode M_QR_item.2.1 21 = .ok (.ifCond .eq 8, 3) := by decide +kernel
theorem d_QR_item_24 : decode M_QR_item.2.1 24 = .ok (.iload_n 2, 1) := by decide +kernel
theorem d_QR_item_25 : decode M_QR_item.2.1 25 = .ok (.iconst 1, 1) := by decide +kernel
theorem d_QR_item_26 : decode M_QR_item.2.1 26 = .ok (.if_icmp .ne 7, 3) := by decide +kernel
theorem d_QR_item_29 : decode M_QR_item.2.1 29 = .ok (.iconst 1, 1) := by decide +kernel
theorem d_QR_item_30 : decode M_QR_item.2.1 30 = .ok (.goto 4, 3) := by decide +kernel
theorem d_QR_item_33 : decode M_QR_item.2.1 33 = .ok (.iconst 0, 1) := by decide +kernel
theorem d_QR_item_34 : decode M_QR_item.2.1 34 = .ok (.invokestatic 64, 3) := by decide +kernel
theorem d_QR_item_37 : decode M_QR_item.2.1 37 = .ok (.iload_n 2, 1) := by decide +kernel
theorem d_QR_item_38 : decode M_QR_item.2.1 38 = .ok (.ifCond .ne 12, 3) := by decide +kernel
theorem d_QR_item_41 : decode M_QR_item.2.1 41 = .ok (.aload_n 3, 1) := by decide +kernel
theorem d_QR_item_42 : decode M_QR_item.2.1 42 = .ok (.getfield 192, 3) := by decide +kernel
theorem d_QR_item_45 : decode M_QR_item.2.1 45 = .ok (.iload_n 1, 1) := by decide +kernel
theorem d_QR_item_46 : decode M_QR_item.2.1 46 = .ok (.iaload, 1) := by decide +kernel
theorem d_QR_item_47 : decode M_QR_item.2.1 47 = .ok (.goto 9, 3) := by decide +kernel
theorem d_QR_item_50 : decode M_QR_item.2.1 50 = .ok (.aload_n 3, 1) := by decide +kernel
theorem d_QR_item_51 : decode M_QR_item.2.1 51 = .ok (.getfield 196, 3) := by decide +kernel
theorem d_QR_item_54 : decode M_QR_item.2.1 54 = .ok (.iload_n 1, 1) := by decide +kernel
theorem d_QR_item_55 : decode M_QR_item.2.1 55 = .ok (.iaload, 1) := by decide +kernel
theorem d_QR_item_56 : decode M_QR_item.2.1 56 = .ok (.ireturn, 1) := by decide +kernel
theorem k_QR_item : x_kV M_QR_item "QuestionReader" 2 := ⟨⟨by decide, Or.inl ⟨w_1002, rfl⟩⟩, w_1000, w_1001, ⟨by decide, by decide⟩, by decide +kernel⟩
def M_QR_group : x_M := (⟨"QuestionReader", "group", "(I)I"⟩, prog_1_method_14_code, 3, some (.int), [])
theorem d_QR_group_0 : decode M_QR_group.2.1 0 = .ok (.aload_n 0, 1) := by decide +kernel
theorem d_QR_group_1 : decode M_QR_group.2.1 1 = .ok (.getfield 44, 3) := by decide +kernel
theorem d_QR_group_4 : decode M_QR_group.2.1 4 = .ok (.getfield 71, 3) := by decide +kernel
theorem d_QR_group_7 : decode M_QR_group.2.1 7 = .ok (.astore_n 2, 1) := by decide +kernel
theorem d_QR_group_8 : decode M_QR_group.2.1 8 = .ok (.iload_n 1, 1) := by decide +kernel
theorem d_QR_group_9 : decode M_QR_group.2.1 9 = .ok (.ifCond .lt 15, 3) := by decide +kernel
theorem d_QR_group_12 : decode M_QR_group.2.1 12 = .ok (.iload_n 1, 1) := by decide +kernel
theorem d_QR_group_13 : decode M_QR_group.2.1 13 = .ok (.aload_n 2, 1) := by decide +kernel
theorem d_QR_group_14 : decode M_QR_group.2.1 14 = .ok (.getfield 120, 3) := by decide +kernel
theorem d_QR_group_17 : decode M_QR_group.2.1 17 = .ok (.if_icmp .ge 7, 3) := by decide +kernel
theorem d_QR_group_20 : decode M_QR_group.2.1 20 = .ok (.iconst 1, 1) := by decide +kernel
theorem d_QR_group_21 : decode M_QR_group.2.1 21 = .ok (.goto 4, 3) := by decide +kernel
theorem d_QR_group_24 : decode M_QR_group.2.1 24 = .ok (.iconst 0, 1) := by decide +kernel
theorem d_QR_group_25 : decode M_QR_group.2.1 25 = .ok (.invokestatic 64, 3) := by decide +kernel
theorem d_QR_group_28 : decode M_QR_group.2.1 28 = .ok (.aload_n 2, 1) := by decide +kernel
theorem d_QR_group_29 : decode M_QR_group.2.1 29 = .ok (.getfield 199, 3) := by decide +kernel
theorem d_QR_group_32 : decode M_QR_group.2.1 32 = .ok (.iload_n 1, 1) := by decide +kernel
theorem d_QR_group_33 : decode M_QR_group.2.1 33 = .ok (.iaload, 1) := by decide +kernel
theorem d_QR_group_34 : decode M_QR_group.2.1 34 = .ok (.ireturn, 1) := by decide +kernel
theorem k_QR_group : x_kV M_QR_group "QuestionReader" 1 := ⟨⟨by decide, Or.inl ⟨w_1009, rfl⟩⟩, w_1007, w_1008, ⟨by decide, by decide⟩, by decide +kernel⟩
def M_QR_set : x_M := (⟨"QuestionReader", "set", "(I)I"⟩, prog_1_method_15_code, 3, some (.int), [])
theorem d_QR_set_0 : decode M_QR_set.2.1 0 = .ok (.aload_n 0, 1) := by decide +kernel
theorem d_QR_set_1 : decode M_QR_set.2.1 1 = .ok (.getfield 44, 3) := by decide +kernel
theorem d_QR_set_4 : decode M_QR_set.2.1 4 = .ok (.getfield 71, 3) := by decide +kernel
theorem d_QR_set_7 : decode M_QR_set.2.1 7 = .ok (.astore_n 2, 1) := by decide +kernel
theorem d_QR_set_8 : decode M_QR_set.2.1 8 = .ok (.iload_n 1, 1) := by decide +kernel
theorem d_QR_set_9 : decode M_QR_set.2.1 9 = .ok (.ifCond .lt 15, 3) := by decide +kernel
theorem d_QR_set_12 : decode M_QR_set.2.1 12 = .ok (.iload_n 1, 1) := by decide +kernel
theorem d_QR_set_13 : decode M_QR_set.2.1 13 = .ok (.aload_n 2, 1) := by decide +kernel
theorem d_QR_set_14 : decode M_QR_set.2.1 14 = .ok (.getfield 123, 3) := by decide +kernel
theorem d_QR_set_17 : decode M_QR_set.2.1 17 = .ok (.if_icmp .ge 7, 3) := by decide +kernel
theorem d_QR_set_20 : decode M_QR_set.2.1 20 = .ok (.iconst 1, 1) := by decide +kernel
theorem d_QR_set_21 : decode M_QR_set.2.1 21 = .ok (.goto 4, 3) := by decide +kernel
theorem d_QR_set_24 : decode M_QR_set.2.1 24 = .ok (.iconst 0, 1) := by decide +kernel
theorem d_QR_set_25 : decode M_QR_set.2.1 25 = .ok (.invokestatic 64, 3) := by decide +kernel
theorem d_QR_set_28 : decode M_QR_set.2.1 28 = .ok (.aload_n 2, 1) := by decide +kernel
theorem d_QR_set_29 : decode M_QR_set.2.1 29 = .ok (.getfield 202, 3) := by decide +kernel
theorem d_QR_set_32 : decode M_QR_set.2.1 32 = .ok (.iload_n 1, 1) := by decide +kernel
theorem d_QR_set_33 : decode M_QR_set.2.1 33 = .ok (.iaload, 1) := by decide +kernel
theorem d_QR_set_34 : decode M_QR_set.2.1 34 = .ok (.ireturn, 1) := by decide +kernel
theorem k_QR_set : x_kV M_QR_set "QuestionReader" 1 := ⟨⟨by decide, Or.inl ⟨w_1016, rfl⟩⟩, w_1014, w_1015, ⟨by decide, by decide⟩, by decide +kernel⟩
def M_QR_pick : x_M := (⟨"QuestionReader", "pick", "(II)I"⟩, prog_1_method_16_code, 5, some (.int), [])
theorem d_QR_pick_0 : decode M_QR_pick.2.1 0 = .ok (.aload_n 0, 1) := by decide +kernel
theorem d_QR_pick_1 : decode M_QR_pick.2.1 1 = .ok (.getfield 28, 3) := by decide +kernel
theorem d_QR_pick_4 : decode M_QR_pick.2.1 4 = .ok (.iload_n 1, 1) := by decide +kernel
theorem d_QR_pick_5 : decode M_QR_pick.2.1 5 = .ok (.iload_n 2, 1) := by decide +kernel
theorem d_QR_pick_6 : decode M_QR_pick.2.1 6 = .ok (.invokevirtual 160, 3) := by decide +kernel
theorem d_QR_pick_9 : decode M_QR_pick.2.1 9 = .ok (.invokestatic 64, 3) := by decide +kernel
theorem d_QR_pick_12 : decode M_QR_pick.2.1 12 = .ok (.aload_n 0, 1) := by decide +kernel
theorem d_QR_pick_13 : decode M_QR_pick.2.1 13 = .ok (.invokevirtual 167, 3) := by decide +kernel
theorem d_QR_pick_16 : decode M_QR_pick.2.1 16 = .ok (.aload_n 0, 1) := by decide +kernel
theorem d_QR_pick_17 : decode M_QR_pick.2.1 17 = .ok (.getfield 28, 3) := by decide +kernel
theorem d_QR_pick_20 : decode M_QR_pick.2.1 20 = .ok (.getfield 144, 3) := by decide +kernel
theorem d_QR_pick_23 : decode M_QR_pick.2.1 23 = .ok (.iload_n 1, 1) := by decide +kernel
theorem d_QR_pick_24 : decode M_QR_pick.2.1 24 = .ok (.aaload, 1) := by decide +kernel
theorem d_QR_pick_25 : decode M_QR_pick.2.1 25 = .ok (.astore_n 3, 1) := by decide +kernel
theorem d_QR_pick_26 : decode M_QR_pick.2.1 26 = .ok (.aload_n 3, 1) := by decide +kernel
theorem d_QR_pick_27 : decode M_QR_pick.2.1 27 = .ok (.getfield 205, 3) := by decide +kernel
theorem d_QR_pick_30 : decode M_QR_pick.2.1 30 = .ok (.istore 4, 2) := by decide +kernel
theorem d_QR_pick_32 : decode M_QR_pick.2.1 32 = .ok (.aload_n 3, 1) := by decide +kernel
theorem d_QR_pick_33 : decode M_QR_pick.2.1 33 = .ok (.iload_n 2, 1) := by decide +kernel
theorem d_QR_pick_34 : decode M_QR_pick.2.1 34 = .ok (.putfield 205, 3) := by decide +kernel
theorem d_QR_pick_37 : decode M_QR_pick.2.1 37 = .ok (.iload 4, 2) := by decide +kernel
theorem d_QR_pick_39 : decode M_QR_pick.2.1 39 = .ok (.ireturn, 1) := by decide +kernel
theorem k_QR_pick : x_kV M_QR_pick "QuestionReader" 2 := ⟨⟨by decide, Or.inl ⟨w_1023, rfl⟩⟩, w_1021, w_1022, ⟨by decide, by decide⟩, by decide +kernel⟩
def M_QR_holds : x_M := (⟨"QuestionReader", "holds", "()Z"⟩, prog_1_method_17_code, 2, some (.boolean), [])
theorem d_QR_holds_0 : decode M_QR_holds.2.1 0 = .ok (.aload_n 0, 1) := by decide +kernel
theorem d_QR_holds_1 : decode M_QR_holds.2.1 1 = .ok (.getfield 44, 3) := by decide +kernel
theorem d_QR_holds_4 : decode M_QR_holds.2.1 4 = .ok (.getfield 71, 3) := by decide +kernel
theorem d_QR_holds_7 : decode M_QR_holds.2.1 7 = .ok (.astore_n 1, 1) := by decide +kernel
theorem d_QR_holds_8 : decode M_QR_holds.2.1 8 = .ok (.aload_n 1, 1) := by decide +kernel
theorem d_QR_holds_9 : decode M_QR_holds.2.1 9 = .ok (.invokevirtual 208, 3) := by decide +kernel
theorem d_QR_holds_12 : decode M_QR_holds.2.1 12 = .ok (.ifCond .ne 13, 3) := by decide +kernel
theorem d_QR_holds_15 : decode M_QR_holds.2.1 15 = .ok (.new 53, 3) := by decide +kernel
theorem d_QR_holds_18 : decode M_QR_holds.2.1 18 = .ok (.dup, 1) := by decide +kernel
theorem d_QR_holds_19 : decode M_QR_holds.2.1 19 = .ok (.ldc 211, 2) := by decide +kernel
theorem d_QR_holds_21 : decode M_QR_holds.2.1 21 = .ok (.invokespecial 57, 3) := by decide +kernel
theorem d_QR_holds_24 : decode M_QR_holds.2.1 24 = .ok (.athrow, 1) := by decide +kernel
theorem d_QR_holds_25 : decode M_QR_holds.2.1 25 = .ok (.aload_n 1, 1) := by decide +kernel
theorem d_QR_holds_26 : decode M_QR_holds.2.1 26 = .ok (.getfield 126, 3) := by decide +kernel
theorem d_QR_holds_29 : decode M_QR_holds.2.1 29 = .ok (.aload_n 0, 1) := by decide +kernel
theorem d_QR_holds_30 : decode M_QR_holds.2.1 30 = .ok (.getfield 28, 3) := by decide +kernel
theorem d_QR_holds_33 : decode M_QR_holds.2.1 33 = .ok (.invokevirtual 213, 3) := by decide +kernel
theorem d_QR_holds_36 : decode M_QR_holds.2.1 36 = .ok (.ireturn, 1) := by decide +kernel
theorem k_QR_holds : x_kV M_QR_holds "QuestionReader" 0 := ⟨⟨by decide, Or.inl ⟨w_1030, rfl⟩⟩, w_1028, w_1029, ⟨by decide, by decide⟩, by decide +kernel⟩
def F_QR_feed  (a1 : Int32) (a2 : Int32) (a3 : Int32) (a4 : Int32) (a5 : Int32) (m : x_m) : Option ((Int32 ⊕ Bool) × x_m) := (if (m.1 1 1) ≤ 65516 then ((F_TX_addFour a1 m).bind fun r27 => ((F_TX_addFour a2 r27).bind fun r35 => ((F_TX_addFour a3 r35).bind fun r43 => ((F_TX_addFour a4 r43).bind fun r52 => ((F_TX_addFour a5 r52).bind fun r61 => some (.inl (r61.1 1 1), r61)))))) else some (.inr false, m))
theorem c_QR_feed {G : x_G} {r : (Int32 ⊕ Bool) × x_m}  {a1 : Int32} {a2 : Int32} {a3 : Int32} {a4 : Int32} {a5 : Int32} {m : x_m} (h : F_QR_feed a1 a2 a3 a4 a5 m = some r) : x_R G M_QR_feed (x_rx 6 1) false [.ref 0, .int a1, .int a2, .int a3, .int a4, .int a5] x_np (x_hp m) (x_pt r) := by
  unfold F_QR_feed at h
  show x_W G M_QR_feed (x_rx 6 1) (x_Q G (x_rx 6 1) false (x_pt r)) false x_np (x_hp m) 0 0 [(0, .ref 0), (1, .int a1), (2, .int a2), (3, .int a3), (4, .int a4), (5, .int a5)] [] 0
  refine x_aload_n d_QR_feed_0 rfl rfl ?_
  refine x_gC d_QR_feed_1 (f_QR_10 rfl) sh_QR hp_QR rfl ?_
  refine x_gI d_QR_feed_4 (f_QR_48 rfl) sh_TX hp_TX rfl ?_
  refine x_ldc (v := 65516) d_QR_feed_7 w_802 ?_
  refine x_icmp_le (tgt := 22) d_QR_feed_9 (by decide) (fun c_ => ?_) (fun c_ => ?_)
  · replace h := x_it h c_
    refine x_aload_n d_QR_feed_22 rfl rfl ?_
    refine x_gC d_QR_feed_23 (f_QR_10 rfl) sh_QR hp_QR rfl ?_
    refine x_iload_n d_QR_feed_26 rfl rfl ?_
    obtain ⟨r27, e27, h⟩ := x_bd h
    refine x_dVv (M2 := M_TX_addFour) (As := [.int a1]) (st := []) d_QR_feed_27 w_869 k_TX_addFour (c_TX_addFour e27) rfl sh_TX hp_TX rfl ⟨Nat.le_of_ble_eq_true rfl, Nat.le_of_ble_eq_true rfl⟩ (Nat.le_of_ble_eq_true rfl) (Nat.le_of_ble_eq_true rfl) (Nat.le_of_ble_eq_true rfl) (Nat.le_of_ble_eq_true rfl) rfl ?_
    refine x_aload_n d_QR_feed_30 rfl rfl ?_
    refine x_gC d_QR_feed_31 (f_QR_10 rfl) sh_QR hp_QR rfl ?_
    refine x_iload_n d_QR_feed_34 rfl rfl ?_
    obtain ⟨r35, e35, h⟩ := x_bd h
    refine x_dVv (M2 := M_TX_addFour) (As := [.int a2]) (st := []) d_QR_feed_35 w_869 k_TX_addFour (c_TX_addFour e35) rfl sh_TX hp_TX rfl ⟨Nat.le_of_ble_eq_true rfl, Nat.le_of_ble_eq_true rfl⟩ (Nat.le_of_ble_eq_true rfl) (Nat.le_of_ble_eq_true rfl) (Nat.le_of_ble_eq_true rfl) (Nat.le_of_ble_eq_true rfl) rfl ?_
    refine x_aload_n d_QR_feed_38 rfl rfl ?_
    refine x_gC d_QR_feed_39 (f_QR_10 rfl) sh_QR hp_QR rfl ?_
    refine x_iload_n d_QR_feed_42 rfl rfl ?_
    obtain ⟨r43, e43, h⟩ := x_bd h
    refine x_dVv (M2 := M_TX_addFour) (As := [.int a3]) (st := []) d_QR_feed_43 w_869 k_TX_addFour (c_TX_addFour e43) rfl sh_TX hp_TX rfl ⟨Nat.le_of_ble_eq_true rfl, Nat.le_of_ble_eq_true rfl⟩ (Nat.le_of_ble_eq_true rfl) (Nat.le_of_ble_eq_true rfl) (Nat.le_of_ble_eq_true rfl) (Nat.le_of_ble_eq_true rfl) rfl ?_
    refine x_aload_n d_QR_feed_46 rfl rfl ?_
    refine x_gC d_QR_feed_47 (f_QR_10 rfl) sh_QR hp_QR rfl ?_
    refine x_iload d_QR_feed_50 rfl ?_
    obtain ⟨r52, e52, h⟩ := x_bd h
    refine x_dVv (M2 := M_TX_addFour) (As := [.int a4]) (st := []) d_QR_feed_52 w_869 k_TX_addFour (c_TX_addFour e52) rfl sh_TX hp_TX rfl ⟨Nat.le_of_ble_eq_true rfl, Nat.le_of_ble_eq_true rfl⟩ (Nat.le_of_ble_eq_true rfl) (Nat.le_of_ble_eq_true rfl) (Nat.le_of_ble_eq_true rfl) (Nat.le_of_ble_eq_true rfl) rfl ?_
    refine x_aload_n d_QR_feed_55 rfl rfl ?_
    refine x_gC d_QR_feed_56 (f_QR_10 rfl) sh_QR hp_QR rfl ?_
    refine x_iload d_QR_feed_59 rfl ?_
    obtain ⟨r61, e61, h⟩ := x_bd h
    refine x_dVv (M2 := M_TX_addFour) (As := [.int a5]) (st := []) d_QR_feed_61 w_869 k_TX_addFour (c_TX_addFour e61) rfl sh_TX hp_TX rfl ⟨Nat.le_of_ble_eq_true rfl, Nat.le_of_ble_eq_true rfl⟩ (Nat.le_of_ble_eq_true rfl) (Nat.le_of_ble_eq_true rfl) (Nat.le_of_ble_eq_true rfl) (Nat.le_of_ble_eq_true rfl) rfl ?_
    refine x_aload_n d_QR_feed_64 rfl rfl ?_
    refine x_gC d_QR_feed_65 (f_QR_10 rfl) sh_QR hp_QR rfl ?_
    refine x_gI d_QR_feed_68 (f_QR_48 rfl) sh_TX hp_TX rfl ?_
    cases h
    exact x_ti d_QR_feed_71 rfl rfl (Nat.le_of_ble_eq_true rfl) (Nat.le_of_ble_eq_true rfl)
  · replace h := x_ie h c_
    cases h
    exact x_throw (i := 40) d_QR_feed_12 d_QR_feed_15 d_QR_feed_16 d_QR_feed_18 d_QR_feed_21 rfl rfl (by decide +kernel) w_803 w_19 w_804 x_atS (fun z => z.2.2.2.2.2.1.1) (Nat.le_of_ble_eq_true rfl) (Nat.le_of_ble_eq_true rfl) (Nat.le_of_ble_eq_true rfl) (Nat.le_of_ble_eq_true rfl) ⟨rfl, rfl, rfl⟩
def B_QR_trim_26   (l1 : Int32) (s0 : Int32) (m : x_m) : Option ((Int32 ⊕ Bool) × x_m) := (if s0 = 0 then some (.inr true, m) else some (.inl ((x_wS m 1 1 ((m.1 1 1) - l1)).1 1 1), x_wS m 1 1 ((m.1 1 1) - l1)))
theorem b_QR_trim_26 {G : x_G} {r : (Int32 ⊕ Bool) × x_m}   {l1 : Int32} {s0 : Int32} {m : x_m} (h : B_QR_trim_26 l1 s0 m = some r) : x_W G M_QR_trim (x_rx 7 1) (x_Q G (x_rx 7 1) false (x_pt r)) false x_np (x_hp m) 0 0 [(0, .ref 0), (1, .int l1)] [.int s0] 26 := by
  unfold B_QR_trim_26 at h
  refine x_dem d_QR_trim_26 w_881 rfl ⟨(Nat.le_of_ble_eq_true rfl), (Nat.le_of_ble_eq_true rfl)⟩ (Nat.le_of_ble_eq_true rfl) (Nat.le_of_ble_eq_true rfl) (Nat.le_of_ble_eq_true rfl) (fun c_ => ?_) (fun c_ => ?_)
  · replace h := x_it h c_
    cases h
    exact ⟨rfl, rfl, rfl⟩
  · replace h := x_ie h c_
    refine x_aload_n d_QR_trim_29 rfl rfl ?_
    refine x_gC d_QR_trim_30 (f_QR_10 rfl) sh_QR hp_QR rfl ?_
    refine x_dup d_QR_trim_33 rfl ?_
    refine x_gI d_QR_trim_34 (f_QR_48 rfl) sh_TX hp_TX rfl ?_
    refine x_iload_n d_QR_trim_37 rfl rfl ?_
    refine x_isub d_QR_trim_38 ?_
    refine x_pI d_QR_trim_39 (f_QR_48 rfl) tb_TX rfl sh_TX hp_TX rfl ⟨rfl, rfl⟩ ?_
    refine x_aload_n d_QR_trim_42 rfl rfl ?_
    refine x_gC d_QR_trim_43 (f_QR_10 rfl) sh_QR hp_QR rfl ?_
    refine x_gI d_QR_trim_46 (f_QR_48 rfl) sh_TX hp_TX rfl ?_
    cases h
    exact x_ti d_QR_trim_49 rfl rfl (Nat.le_of_ble_eq_true rfl) (Nat.le_of_ble_eq_true rfl)
def B_QR_trim_25   (l1 : Int32) (m : x_m) : Option ((Int32 ⊕ Bool) × x_m) := B_QR_trim_26 l1 0 m
theorem b_QR_trim_25 {G : x_G} {r : (Int32 ⊕ Bool) × x_m}   {l1 : Int32} {m : x_m} (h : B_QR_trim_25 l1 m = some r) : x_W G M_QR_trim (x_rx 7 1) (x_Q G (x_rx 7 1) false (x_pt r)) false x_np (x_hp m) 0 0 [(0, .ref 0), (1, .int l1)] [] 25 := by
  unfold B_QR_trim_25 at h
  refine x_iconst (v := 0) d_QR_trim_25 (by decide) ?_
  exact b_QR_trim_26 h
def F_QR_trim  (a1 : Int32) (m : x_m) : Option ((Int32 ⊕ Bool) × x_m) := (if a1 < 0 then B_QR_trim_25 a1 m else (if 20 < a1 then B_QR_trim_25 a1 m else (if (m.1 1 1) < a1 then B_QR_trim_25 a1 m else B_QR_trim_26 a1 1 m)))
theorem c_QR_trim {G : x_G} {r : (Int32 ⊕ Bool) × x_m}  {a1 : Int32} {m : x_m} (h : F_QR_trim a1 m = some r) : x_R G M_QR_trim (x_rx 7 1) false [.ref 0, .int a1] x_np (x_hp m) (x_pt r) := by
  unfold F_QR_trim at h
  show x_W G M_QR_trim (x_rx 7 1) (x_Q G (x_rx 7 1) false (x_pt r)) false x_np (x_hp m) 0 0 [(0, .ref 0), (1, .int a1)] [] 0
  refine x_iload_n d_QR_trim_0 rfl rfl ?_
  refine x_if_lt (tgt := 25) d_QR_trim_1 (by decide) (fun c_ => ?_) (fun c_ => ?_)
  · replace h := x_it h c_
    exact b_QR_trim_25 h
  · replace h := x_ie h c_
    refine x_iload_n d_QR_trim_4 rfl rfl ?_
    refine x_bipush (v := 20) d_QR_trim_5 (by decide) ?_
    refine x_icmp_gt (tgt := 25) d_QR_trim_7 (by decide) (fun c_ => ?_) (fun c_ => ?_)
    · replace h := x_it h c_
      exact b_QR_trim_25 h
    · replace h := x_ie h c_
      refine x_iload_n d_QR_trim_10 rfl rfl ?_
      refine x_aload_n d_QR_trim_11 rfl rfl ?_
      refine x_gC d_QR_trim_12 (f_QR_10 rfl) sh_QR hp_QR rfl ?_
      refine x_gI d_QR_trim_15 (f_QR_48 rfl) sh_TX hp_TX rfl ?_
      refine x_icmp_gt (tgt := 25) d_QR_trim_18 (by decide) (fun c_ => ?_) (fun c_ => ?_)
      · replace h := x_it h c_
        exact b_QR_trim_25 h
      · replace h := x_ie h c_
        refine x_iconst (v := 1) d_QR_trim_21 (by decide) ?_
        refine x_goto (tgt := 26) d_QR_trim_22 (by decide) ?_
        exact b_QR_trim_26 h
def B_QR_fault_38   (s0 : Int32) (m : x_m) : Option ((Int32 ⊕ Bool) × x_m) := some (.inl s0, m)
theorem b_QR_fault_38 {G : x_G} {r : (Int32 ⊕ Bool) × x_m}   {s0 : Int32} {m : x_m} (h : B_QR_fault_38 s0 m = some r) : x_W G M_QR_fault (x_rx 7 1) (x_Q G (x_rx 7 1) false (x_pt r)) false x_np (x_hp m) 1 6 [] [.int s0] 38 := by
  unfold B_QR_fault_38 at h
  cases h
  exact x_ti d_QR_fault_38 rfl rfl (Nat.le_of_ble_eq_true rfl) (Nat.le_of_ble_eq_true rfl)
def B_QR_fault_14   (l1 : Int32) (s0 : Int32) (m : x_m) : Option ((Int32 ⊕ Bool) × x_m) := (if s0 = 0 then some (.inr true, m) else (if l1 = 0 then B_QR_fault_38 (m.1 3 5) m else B_QR_fault_38 (m.1 3 6) m))
theorem b_QR_fault_14 {G : x_G} {r : (Int32 ⊕ Bool) × x_m}   {l1 : Int32} {s0 : Int32} {m : x_m} (h : B_QR_fault_14 l1 s0 m = some r) : x_W G M_QR_fault (x_rx 7 1) (x_Q G (x_rx 7 1) false (x_pt r)) false x_np (x_hp m) 0 0 [(0, .ref 0), (1, .int l1)] [.int s0] 14 := by
  unfold B_QR_fault_14 at h
  refine x_dem d_QR_fault_14 w_881 rfl ⟨(Nat.le_of_ble_eq_true rfl), (Nat.le_of_ble_eq_true rfl)⟩ (Nat.le_of_ble_eq_true rfl) (Nat.le_of_ble_eq_true rfl) (Nat.le_of_ble_eq_true rfl) (fun c_ => ?_) (fun c_ => ?_)
  · replace h := x_it h c_
    cases h
    exact ⟨rfl, rfl, rfl⟩
  · replace h := x_ie h c_
    refine x_iload_n d_QR_fault_17 rfl rfl ?_
    refine x_if_ne (tgt := 31) d_QR_fault_18 (by decide) (fun c_ => ?_) (fun c_ => ?_)
    · replace h := x_ie h c_
      refine x_aload_n d_QR_fault_31 rfl rfl ?_
      refine x_gC d_QR_fault_32 (f_QR_21 rfl) sh_QR hp_QR rfl ?_
      refine x_gI d_QR_fault_35 (f_QR_105 rfl) sh_LX hp_LX rfl ?_
      refine x_sbk [] (lv2 := []) rfl ?_; exact b_QR_fault_38 h
    · replace h := x_it h c_
      refine x_aload_n d_QR_fault_21 rfl rfl ?_
      refine x_gC d_QR_fault_22 (f_QR_21 rfl) sh_QR hp_QR rfl ?_
      refine x_gI d_QR_fault_25 (f_QR_102 rfl) sh_LX hp_LX rfl ?_
      refine x_goto (tgt := 38) d_QR_fault_28 (by decide) ?_
      refine x_sbk [] (lv2 := []) rfl ?_; exact b_QR_fault_38 h
def B_QR_fault_9   (l1 : Int32) (m : x_m) : Option ((Int32 ⊕ Bool) × x_m) := B_QR_fault_14 l1 1 m
theorem b_QR_fault_9 {G : x_G} {r : (Int32 ⊕ Bool) × x_m}   {l1 : Int32} {m : x_m} (h : B_QR_fault_9 l1 m = some r) : x_W G M_QR_fault (x_rx 7 1) (x_Q G (x_rx 7 1) false (x_pt r)) false x_np (x_hp m) 0 0 [(0, .ref 0), (1, .int l1)] [] 9 := by
  unfold B_QR_fault_9 at h
  refine x_iconst (v := 1) d_QR_fault_9 (by decide) ?_
  refine x_goto (tgt := 14) d_QR_fault_10 (by decide) ?_
  exact b_QR_fault_14 h
def F_QR_fault  (a1 : Int32) (m : x_m) : Option ((Int32 ⊕ Bool) × x_m) := (if a1 = 0 then B_QR_fault_9 a1 m else (if a1 = 1 then B_QR_fault_9 a1 m else B_QR_fault_14 a1 0 m))
theorem c_QR_fault {G : x_G} {r : (Int32 ⊕ Bool) × x_m}  {a1 : Int32} {m : x_m} (h : F_QR_fault a1 m = some r) : x_R G M_QR_fault (x_rx 7 1) false [.ref 0, .int a1] x_np (x_hp m) (x_pt r) := by
  unfold F_QR_fault at h
  show x_W G M_QR_fault (x_rx 7 1) (x_Q G (x_rx 7 1) false (x_pt r)) false x_np (x_hp m) 0 0 [(0, .ref 0), (1, .int a1)] [] 0
  refine x_iload_n d_QR_fault_0 rfl rfl ?_
  refine x_if_eq (tgt := 9) d_QR_fault_1 (by decide) (fun c_ => ?_) (fun c_ => ?_)
  · replace h := x_it h c_
    exact b_QR_fault_9 h
  · replace h := x_ie h c_
    refine x_iload_n d_QR_fault_4 rfl rfl ?_
    refine x_iconst (v := 1) d_QR_fault_5 (by decide) ?_
    refine x_icmp_ne (tgt := 13) d_QR_fault_6 (by decide) (fun c_ => ?_) (fun c_ => ?_)
    · replace h := x_ie h c_
      refine x_iconst (v := 0) d_QR_fault_13 (by decide) ?_
      exact b_QR_fault_14 h
    · replace h := x_it h c_
      exact b_QR_fault_9 h
def F_QR_count  (a1 : Int32) (m : x_m) : Option ((Int32 ⊕ Bool) × x_m) := (if x_qb (m.2.2.1 114 3) = true then (if a1 = 0 then some (.inl (m.1 4 2), m) else (if a1 = 1 then some (.inl (m.1 4 3), m) else (if a1 = 2 then some (.inl (m.1 1 1), m) else (if a1 = 3 then some (.inl (m.1 (m.2.2.1 114 3) 0), m) else (if a1 = 4 then some (.inl (m.1 (m.2.2.1 114 3) 4), m) else (if a1 = 5 then some (.inl (m.1 (m.2.2.1 114 3) 6), m) else (if a1 = 6 then some (.inl (m.1 (m.2.2.1 114 3 + 6) 0), m) else some (.inr true, m)))))))) else none)
theorem c_QR_count {G : x_G} {r : (Int32 ⊕ Bool) × x_m}  {a1 : Int32} {m : x_m} (h : F_QR_count a1 m = some r) : x_R G M_QR_count (x_rx 6 1) false [.ref 0, .int a1] x_np (x_hp m) (x_pt r) := by
  unfold F_QR_count at h
  show x_W G M_QR_count (x_rx 6 1) (x_Q G (x_rx 6 1) false (x_pt r)) false x_np (x_hp m) 0 0 [(0, .ref 0), (1, .int a1)] [] 0
  refine x_aload_n d_QR_count_0 rfl rfl ?_
  refine x_gC d_QR_count_1 (f_QR_44 rfl) sh_QR hp_QR rfl ?_
  refine x_gR d_QR_count_4 (f_QR_71 rfl) sh_QG hp_QG rfl ?_
  obtain ⟨g_4, h⟩ := x_gd h
  refine x_astore_n (lv2 := [(0, .ref 0), (1, .int a1), (2, .ref (m.2.2.1 114 3))]) d_QR_count_7 rfl (by decide) rfl ?_
  refine x_iload_n d_QR_count_8 rfl rfl ?_
  by_cases c0_ : a1 = 0
  · replace h := x_it h c0_
    refine x_tsI (tgt := 52) d_QR_count_9 c0_ (by decide) (by decide) rfl (by decide) ?_
    refine x_aload_n d_QR_count_52 rfl rfl ?_
    refine x_gC d_QR_count_53 (f_QR_28 rfl) sh_QR hp_QR rfl ?_
    refine x_gI d_QR_count_56 (f_QR_111 rfl) sh_CT hp_CT rfl ?_
    cases h
    exact x_ti d_QR_count_59 rfl rfl (Nat.le_of_ble_eq_true rfl) (Nat.le_of_ble_eq_true rfl)
  · replace h := x_ie h c0_
    by_cases c1_ : a1 = 1
    · replace h := x_it h c1_
      refine x_tsI (tgt := 60) d_QR_count_9 c1_ (by decide) (by decide) rfl (by decide) ?_
      refine x_aload_n d_QR_count_60 rfl rfl ?_
      refine x_gC d_QR_count_61 (f_QR_28 rfl) sh_QR hp_QR rfl ?_
      refine x_gI d_QR_count_64 (f_QR_114 rfl) sh_CT hp_CT rfl ?_
      cases h
      exact x_ti d_QR_count_67 rfl rfl (Nat.le_of_ble_eq_true rfl) (Nat.le_of_ble_eq_true rfl)
    · replace h := x_ie h c1_
      by_cases c2_ : a1 = 2
      · replace h := x_it h c2_
        refine x_tsI (tgt := 68) d_QR_count_9 c2_ (by decide) (by decide) rfl (by decide) ?_
        refine x_aload_n d_QR_count_68 rfl rfl ?_
        refine x_gC d_QR_count_69 (f_QR_10 rfl) sh_QR hp_QR rfl ?_
        refine x_gI d_QR_count_72 (f_QR_48 rfl) sh_TX hp_TX rfl ?_
        cases h
        exact x_ti d_QR_count_75 rfl rfl (Nat.le_of_ble_eq_true rfl) (Nat.le_of_ble_eq_true rfl)
      · replace h := x_ie h c2_
        by_cases c3_ : a1 = 3
        · replace h := x_it h c3_
          refine x_tsI (tgt := 76) d_QR_count_9 c3_ (by decide) (by decide) rfl (by decide) ?_
          refine x_aload_n d_QR_count_76 rfl rfl ?_
          refine x_gI d_QR_count_77 (f_QR_117 rfl) (sh_QU (x_qb_ok g_4)) (hp_QU (x_qb_ok g_4)) rfl ?_
          cases h
          exact x_ti d_QR_count_80 rfl rfl (Nat.le_of_ble_eq_true rfl) (Nat.le_of_ble_eq_true rfl)
        · replace h := x_ie h c3_
          by_cases c4_ : a1 = 4
          · replace h := x_it h c4_
            refine x_tsI (tgt := 81) d_QR_count_9 c4_ (by decide) (by decide) rfl (by decide) ?_
            refine x_aload_n d_QR_count_81 rfl rfl ?_
            refine x_gI d_QR_count_82 (f_QR_120 rfl) (sh_QU (x_qb_ok g_4)) (hp_QU (x_qb_ok g_4)) rfl ?_
            cases h
            exact x_ti d_QR_count_85 rfl rfl (Nat.le_of_ble_eq_true rfl) (Nat.le_of_ble_eq_true rfl)
          · replace h := x_ie h c4_
            by_cases c5_ : a1 = 5
            · replace h := x_it h c5_
              refine x_tsI (tgt := 86) d_QR_count_9 c5_ (by decide) (by decide) rfl (by decide) ?_
              refine x_aload_n d_QR_count_86 rfl rfl ?_
              refine x_gI d_QR_count_87 (f_QR_123 rfl) (sh_QU (x_qb_ok g_4)) (hp_QU (x_qb_ok g_4)) rfl ?_
              cases h
              exact x_ti d_QR_count_90 rfl rfl (Nat.le_of_ble_eq_true rfl) (Nat.le_of_ble_eq_true rfl)
            · replace h := x_ie h c5_
              by_cases c6_ : a1 = 6
              · replace h := x_it h c6_
                refine x_tsI (tgt := 91) d_QR_count_9 c6_ (by decide) (by decide) rfl (by decide) ?_
                refine x_aload_n d_QR_count_91 rfl rfl ?_
                refine x_gC d_QR_count_92 (f_QR_126 rfl) (sh_QU (x_qb_ok g_4)) (hp_QU (x_qb_ok g_4)) rfl ?_
                refine x_gI d_QR_count_95 (f_QR_130 rfl) (sh_CN (x_CN_of (x_qb_ok g_4))) (hp_CN (x_CN_of (x_qb_ok g_4))) rfl ?_
                cases h
                exact x_ti d_QR_count_98 rfl rfl (Nat.le_of_ble_eq_true rfl) (Nat.le_of_ble_eq_true rfl)
              · replace h := x_ie h c6_
                refine x_tsO (tgt := 99) d_QR_count_9 (x_tsd (n := 7) (by decide) (fun j hj => match j, hj with | 0, _ => fun e_ => c0_ (e_.trans (by decide)) | 1, _ => fun e_ => c1_ (e_.trans (by decide)) | 2, _ => fun e_ => c2_ (e_.trans (by decide)) | 3, _ => fun e_ => c3_ (e_.trans (by decide)) | 4, _ => fun e_ => c4_ (e_.trans (by decide)) | 5, _ => fun e_ => c5_ (e_.trans (by decide)) | 6, _ => fun e_ => c6_ (e_.trans (by decide)) | _ + 7, hz => absurd hz (by omega))) (by decide) ?_
                cases h
                exact x_throw (i := 42) d_QR_count_99 d_QR_count_102 d_QR_count_103 d_QR_count_105 d_QR_count_108 rfl rfl (by decide +kernel) w_884 w_20 w_885 x_atA (fun z => z.2.2.2.2.2.1.2.2.1) (Nat.le_of_ble_eq_true rfl) (Nat.le_of_ble_eq_true rfl) (Nat.le_of_ble_eq_true rfl) (Nat.le_of_ble_eq_true rfl) ⟨rfl, rfl, rfl⟩
def B_QR_dimension_53   (s0 : Int32) (m : x_m) : Option ((Int32 ⊕ Bool) × x_m) := some (.inl s0, m)
theorem b_QR_dimension_53 {G : x_G} {r : (Int32 ⊕ Bool) × x_m}   {s0 : Int32} {m : x_m} (h : B_QR_dimension_53 s0 m = some r) : x_W G M_QR_dimension (x_rx 7 1) (x_Q G (x_rx 7 1) false (x_pt r)) false x_np (x_hp m) 1 6 [] [.int s0] 53 := by
  unfold B_QR_dimension_53 at h
  cases h
  exact x_ti d_QR_dimension_53 rfl rfl (Nat.le_of_ble_eq_true rfl) (Nat.le_of_ble_eq_true rfl)
def B_QR_dimension_25   (l1 : Int32) (l2 : Int32) (s0 : Int32) (m : x_m) : Option ((Int32 ⊕ Bool) × x_m) := (if s0 = 0 then some (.inr true, m) else (if x_ix l1 8 = true then (if l2 = 0 then B_QR_dimension_53 (m.1 (9 + 13 * l1.toNatClampNeg) 0) m else B_QR_dimension_53 (m.1 (9 + 13 * l1.toNatClampNeg) 1) m) else none))
theorem b_QR_dimension_25 {G : x_G} {r : (Int32 ⊕ Bool) × x_m}   {l1 : Int32} {l2 : Int32} {s0 : Int32} {m : x_m} (h : B_QR_dimension_25 l1 l2 s0 m = some r) : x_W G M_QR_dimension (x_rx 7 1) (x_Q G (x_rx 7 1) false (x_pt r)) false x_np (x_hp m) 0 0 [(0, .ref 0), (1, .int l1), (2, .int l2)] [.int s0] 25 := by
  unfold B_QR_dimension_25 at h
  refine x_dem d_QR_dimension_25 w_881 rfl ⟨(Nat.le_of_ble_eq_true rfl), (Nat.le_of_ble_eq_true rfl)⟩ (Nat.le_of_ble_eq_true rfl) (Nat.le_of_ble_eq_true rfl) (Nat.le_of_ble_eq_true rfl) (fun c_ => ?_) (fun c_ => ?_)
  · replace h := x_it h c_
    cases h
    exact ⟨rfl, rfl, rfl⟩
  · replace h := x_ie h c_
    refine x_aload_n d_QR_dimension_28 rfl rfl ?_
    refine x_gC d_QR_dimension_29 (f_QR_28 rfl) sh_QR hp_QR rfl ?_
    refine x_gC d_QR_dimension_32 (f_QR_144 rfl) sh_CT hp_CT rfl ?_
    refine x_iload_n d_QR_dimension_35 rfl rfl ?_
    obtain ⟨g_36, h⟩ := x_gd h
    refine x_lR (b := 9 + 13 * l1.toNatClampNeg) d_QR_dimension_36 rfl sa_CT_dimensions ha_CT_dimensions g_36 (if_pos (x_ix_lt g_36)) ?_
    refine x_astore_n (lv2 := [(0, .ref 0), (1, .int l1), (2, .int l2), (3, .ref (9 + 13 * l1.toNatClampNeg))]) d_QR_dimension_37 rfl (by decide) rfl ?_
    refine x_iload_n d_QR_dimension_38 rfl rfl ?_
    refine x_if_ne (tgt := 49) d_QR_dimension_39 (by decide) (fun c_ => ?_) (fun c_ => ?_)
    · replace h := x_ie h c_
      refine x_aload_n d_QR_dimension_49 rfl rfl ?_
      refine x_gI d_QR_dimension_50 (f_QR_153 rfl) (sh_DM (x_DM_of (x_ix_lt g_36))) (hp_DM (x_DM_of (x_ix_lt g_36))) rfl ?_
      refine x_sbk [] (lv2 := []) rfl ?_; exact b_QR_dimension_53 h
    · replace h := x_it h c_
      refine x_aload_n d_QR_dimension_42 rfl rfl ?_
      refine x_gI d_QR_dimension_43 (f_QR_148 rfl) (sh_DM (x_DM_of (x_ix_lt g_36))) (hp_DM (x_DM_of (x_ix_lt g_36))) rfl ?_
      refine x_goto (tgt := 53) d_QR_dimension_46 (by decide) ?_
      refine x_sbk [] (lv2 := []) rfl ?_; exact b_QR_dimension_53 h
def B_QR_dimension_24   (l1 : Int32) (l2 : Int32) (m : x_m) : Option ((Int32 ⊕ Bool) × x_m) := B_QR_dimension_25 l1 l2 0 m
theorem b_QR_dimension_24 {G : x_G} {r : (Int32 ⊕ Bool) × x_m}   {l1 : Int32} {l2 : Int32} {m : x_m} (h : B_QR_dimension_24 l1 l2 m = some r) : x_W G M_QR_dimension (x_rx 7 1) (x_Q G (x_rx 7 1) false (x_pt r)) false x_np (x_hp m) 0 0 [(0, .ref 0), (1, .int l1), (2, .int l2)] [] 24 := by
  unfold B_QR_dimension_24 at h
  refine x_iconst (v := 0) d_QR_dimension_24 (by decide) ?_
  exact b_QR_dimension_25 h
def B_QR_dimension_20   (l1 : Int32) (l2 : Int32) (m : x_m) : Option ((Int32 ⊕ Bool) × x_m) := B_QR_dimension_25 l1 l2 1 m
theorem b_QR_dimension_20 {G : x_G} {r : (Int32 ⊕ Bool) × x_m}   {l1 : Int32} {l2 : Int32} {m : x_m} (h : B_QR_dimension_20 l1 l2 m = some r) : x_W G M_QR_dimension (x_rx 7 1) (x_Q G (x_rx 7 1) false (x_pt r)) false x_np (x_hp m) 0 0 [(0, .ref 0), (1, .int l1), (2, .int l2)] [] 20 := by
  unfold B_QR_dimension_20 at h
  refine x_iconst (v := 1) d_QR_dimension_20 (by decide) ?_
  refine x_goto (tgt := 25) d_QR_dimension_21 (by decide) ?_
  exact b_QR_dimension_25 h
def F_QR_dimension  (a1 : Int32) (a2 : Int32) (m : x_m) : Option ((Int32 ⊕ Bool) × x_m) := ((F_CT_hasDimension a1 m).bind fun r5 => (if r5.1 = 0 then B_QR_dimension_24 a1 a2 r5.2 else (if a2 = 0 then B_QR_dimension_20 a1 a2 r5.2 else (if a2 = 1 then B_QR_dimension_20 a1 a2 r5.2 else B_QR_dimension_24 a1 a2 r5.2))))
theorem c_QR_dimension {G : x_G} {r : (Int32 ⊕ Bool) × x_m}  {a1 : Int32} {a2 : Int32} {m : x_m} (h : F_QR_dimension a1 a2 m = some r) : x_R G M_QR_dimension (x_rx 7 1) false [.ref 0, .int a1, .int a2] x_np (x_hp m) (x_pt r) := by
  unfold F_QR_dimension at h
  show x_W G M_QR_dimension (x_rx 7 1) (x_Q G (x_rx 7 1) false (x_pt r)) false x_np (x_hp m) 0 0 [(0, .ref 0), (1, .int a1), (2, .int a2)] [] 0
  refine x_aload_n d_QR_dimension_0 rfl rfl ?_
  refine x_gC d_QR_dimension_1 (f_QR_28 rfl) sh_QR hp_QR rfl ?_
  refine x_iload_n d_QR_dimension_4 rfl rfl ?_
  obtain ⟨r5, e5, h⟩ := x_bd h
  refine x_dVi (M2 := M_CT_hasDimension) (As := [.int a1]) (st := []) d_QR_dimension_5 w_922 k_CT_hasDimension (c_CT_hasDimension e5) rfl sh_CT hp_CT rfl ⟨Nat.le_of_ble_eq_true rfl, Nat.le_of_ble_eq_true rfl⟩ (Nat.le_of_ble_eq_true rfl) (Nat.le_of_ble_eq_true rfl) (Nat.le_of_ble_eq_true rfl) (Nat.le_of_ble_eq_true rfl) rfl ?_
  refine x_if_eq (tgt := 24) d_QR_dimension_8 (by decide) (fun c_ => ?_) (fun c_ => ?_)
  · replace h := x_it h c_
    exact b_QR_dimension_24 h
  · replace h := x_ie h c_
    refine x_iload_n d_QR_dimension_11 rfl rfl ?_
    refine x_if_eq (tgt := 20) d_QR_dimension_12 (by decide) (fun c_ => ?_) (fun c_ => ?_)
    · replace h := x_it h c_
      exact b_QR_dimension_20 h
    · replace h := x_ie h c_
      refine x_iload_n d_QR_dimension_15 rfl rfl ?_
      refine x_iconst (v := 1) d_QR_dimension_16 (by decide) ?_
      refine x_icmp_ne (tgt := 24) d_QR_dimension_17 (by decide) (fun c_ => ?_) (fun c_ => ?_)
      · replace h := x_ie h c_
        exact b_QR_dimension_24 h
      · replace h := x_it h c_
        exact b_QR_dimension_20 h
def B_QR_value_29   (l1 : Int32) (l2 : Int32) (l3 : Int32) (s0 : Int32) (m : x_m) : Option ((Int32 ⊕ Bool) × x_m) := (if s0 = 0 then some (.inr true, m) else (if x_ix l1 8 = true then ((F_DM_valueAt (9 + 13 * l1.toNatClampNeg) l2 l3 m).bind fun r43 => some (.inl r43.1, r43.2)) else none))
theorem b_QR_value_29 {G : x_G} {r : (Int32 ⊕ Bool) × x_m}   {l1 : Int32} {l2 : Int32} {l3 : Int32} {s0 : Int32} {m : x_m} (h : B_QR_value_29 l1 l2 l3 s0 m = some r) : x_W G M_QR_value (x_rx 7 1) (x_Q G (x_rx 7 1) false (x_pt r)) false x_np (x_hp m) 0 0 [(0, .ref 0), (1, .int l1), (2, .int l2), (3, .int l3)] [.int s0] 29 := by
  unfold B_QR_value_29 at h
  refine x_dem d_QR_value_29 w_881 rfl ⟨(Nat.le_of_ble_eq_true rfl), (Nat.le_of_ble_eq_true rfl)⟩ (Nat.le_of_ble_eq_true rfl) (Nat.le_of_ble_eq_true rfl) (Nat.le_of_ble_eq_true rfl) (fun c_ => ?_) (fun c_ => ?_)
  · replace h := x_it h c_
    cases h
    exact ⟨rfl, rfl, rfl⟩
  · replace h := x_ie h c_
    refine x_aload_n d_QR_value_32 rfl rfl ?_
    refine x_gC d_QR_value_33 (f_QR_28 rfl) sh_QR hp_QR rfl ?_
    refine x_gC d_QR_value_36 (f_QR_144 rfl) sh_CT hp_CT rfl ?_
    refine x_iload_n d_QR_value_39 rfl rfl ?_
    obtain ⟨g_40, h⟩ := x_gd h
    refine x_lR (b := 9 + 13 * l1.toNatClampNeg) d_QR_value_40 rfl sa_CT_dimensions ha_CT_dimensions g_40 (if_pos (x_ix_lt g_40)) ?_
    refine x_iload_n d_QR_value_41 rfl rfl ?_
    refine x_iload_n d_QR_value_42 rfl rfl ?_
    obtain ⟨r43, e43, h⟩ := x_bd h
    refine x_dVi (M2 := M_DM_valueAt) (As := [.int l2, .int l3]) (st := []) d_QR_value_43 w_942 k_DM_valueAt (c_DM_valueAt (x_DM_of (x_ix_lt g_40)) e43) rfl (sh_DM (x_DM_of (x_ix_lt g_40))) (hp_DM (x_DM_of (x_ix_lt g_40))) rfl ⟨Nat.le_of_ble_eq_true rfl, Nat.le_of_ble_eq_true rfl⟩ (Nat.le_of_ble_eq_true rfl) (Nat.le_of_ble_eq_true rfl) (Nat.le_of_ble_eq_true rfl) (Nat.le_of_ble_eq_true rfl) rfl ?_
    cases h
    exact x_ti d_QR_value_46 rfl rfl (Nat.le_of_ble_eq_true rfl) (Nat.le_of_ble_eq_true rfl)
def B_QR_value_28   (l1 : Int32) (l2 : Int32) (l3 : Int32) (m : x_m) : Option ((Int32 ⊕ Bool) × x_m) := B_QR_value_29 l1 l2 l3 0 m
theorem b_QR_value_28 {G : x_G} {r : (Int32 ⊕ Bool) × x_m}   {l1 : Int32} {l2 : Int32} {l3 : Int32} {m : x_m} (h : B_QR_value_28 l1 l2 l3 m = some r) : x_W G M_QR_value (x_rx 7 1) (x_Q G (x_rx 7 1) false (x_pt r)) false x_np (x_hp m) 0 0 [(0, .ref 0), (1, .int l1), (2, .int l2), (3, .int l3)] [] 28 := by
  unfold B_QR_value_28 at h
  refine x_iconst (v := 0) d_QR_value_28 (by decide) ?_
  exact b_QR_value_29 h
def F_QR_value  (a1 : Int32) (a2 : Int32) (a3 : Int32) (m : x_m) : Option ((Int32 ⊕ Bool) × x_m) := ((F_CT_hasLevel a1 a2 m).bind fun r6 => (if r6.1 = 0 then B_QR_value_28 a1 a2 a3 r6.2 else ((F_CT_hasMember a1 a3 r6.2).bind fun r18 => (if r18.1 = 0 then B_QR_value_28 a1 a2 a3 r18.2 else B_QR_value_29 a1 a2 a3 1 r18.2))))
theorem c_QR_value {G : x_G} {r : (Int32 ⊕ Bool) × x_m}  {a1 : Int32} {a2 : Int32} {a3 : Int32} {m : x_m} (h : F_QR_value a1 a2 a3 m = some r) : x_R G M_QR_value (x_rx 7 1) false [.ref 0, .int a1, .int a2, .int a3] x_np (x_hp m) (x_pt r) := by
  unfold F_QR_value at h
  show x_W G M_QR_value (x_rx 7 1) (x_Q G (x_rx 7 1) false (x_pt r)) false x_np (x_hp m) 0 0 [(0, .ref 0), (1, .int a1), (2, .int a2), (3, .int a3)] [] 0
  refine x_aload_n d_QR_value_0 rfl rfl ?_
  refine x_gC d_QR_value_1 (f_QR_28 rfl) sh_QR hp_QR rfl ?_
  refine x_iload_n d_QR_value_4 rfl rfl ?_
  refine x_iload_n d_QR_value_5 rfl rfl ?_
  obtain ⟨r6, e6, h⟩ := x_bd h
  refine x_dVi (M2 := M_CT_hasLevel) (As := [.int a1, .int a2]) (st := []) d_QR_value_6 w_933 k_CT_hasLevel (c_CT_hasLevel e6) rfl sh_CT hp_CT rfl ⟨Nat.le_of_ble_eq_true rfl, Nat.le_of_ble_eq_true rfl⟩ (Nat.le_of_ble_eq_true rfl) (Nat.le_of_ble_eq_true rfl) (Nat.le_of_ble_eq_true rfl) (Nat.le_of_ble_eq_true rfl) rfl ?_
  refine x_if_eq (tgt := 28) d_QR_value_9 (by decide) (fun c_ => ?_) (fun c_ => ?_)
  · replace h := x_it h c_
    exact b_QR_value_28 h
  · replace h := x_ie h c_
    refine x_aload_n d_QR_value_12 rfl rfl ?_
    refine x_gC d_QR_value_13 (f_QR_28 rfl) sh_QR hp_QR rfl ?_
    refine x_iload_n d_QR_value_16 rfl rfl ?_
    refine x_iload_n d_QR_value_17 rfl rfl ?_
    obtain ⟨r18, e18, h⟩ := x_bd h
    refine x_dVi (M2 := M_CT_hasMember) (As := [.int a1, .int a3]) (st := []) d_QR_value_18 w_938 k_CT_hasMember (c_CT_hasMember e18) rfl sh_CT hp_CT rfl ⟨Nat.le_of_ble_eq_true rfl, Nat.le_of_ble_eq_true rfl⟩ (Nat.le_of_ble_eq_true rfl) (Nat.le_of_ble_eq_true rfl) (Nat.le_of_ble_eq_true rfl) (Nat.le_of_ble_eq_true rfl) rfl ?_
    refine x_if_eq (tgt := 28) d_QR_value_21 (by decide) (fun c_ => ?_) (fun c_ => ?_)
    · replace h := x_it h c_
      exact b_QR_value_28 h
    · replace h := x_ie h c_
      refine x_iconst (v := 1) d_QR_value_24 (by decide) ?_
      refine x_goto (tgt := 29) d_QR_value_25 (by decide) ?_
      exact b_QR_value_29 h
def B_QR_rank_34   (l1 : Int32) (l2 : Int32) (l3 : Int32) (s0 : Int32) (m : x_m) : Option ((Int32 ⊕ Bool) × x_m) := (if s0 = 0 then some (.inr true, m) else (if m.1 4 4 = 0 then some (.inr false, m) else (if x_ix l1 8 = true then (if l3 = ((-1)) then ((F_DM_distinctAt (9 + 13 * l1.toNatClampNeg) l2 m).bind fun r60 => some (.inl r60.1, r60.2)) else ((F_DM_valueAt (9 + 13 * l1.toNatClampNeg) l2 l3 m).bind fun r71 => ((F_DM_lowerThan (9 + 13 * l1.toNatClampNeg) l2 r71.1 r71.2).bind fun r74 => some (.inl r74.1, r74.2)))) else none)))
theorem b_QR_rank_34 {G : x_G} {r : (Int32 ⊕ Bool) × x_m}   {l1 : Int32} {l2 : Int32} {l3 : Int32} {s0 : Int32} {m : x_m} (h : B_QR_rank_34 l1 l2 l3 s0 m = some r) : x_W G M_QR_rank (x_rx 7 2) (x_Q G (x_rx 7 2) false (x_pt r)) false x_np (x_hp m) 0 0 [(0, .ref 0), (1, .int l1), (2, .int l2), (3, .int l3)] [.int s0] 34 := by
  unfold B_QR_rank_34 at h
  refine x_dem d_QR_rank_34 w_881 rfl ⟨(Nat.le_of_ble_eq_true rfl), (Nat.le_of_ble_eq_true rfl)⟩ (Nat.le_of_ble_eq_true rfl) (Nat.le_of_ble_eq_true rfl) (Nat.le_of_ble_eq_true rfl) (fun c_ => ?_) (fun c_ => ?_)
  · replace h := x_it h c_
    cases h
    exact ⟨rfl, rfl, rfl⟩
  · replace h := x_ie h c_
    refine x_aload_n d_QR_rank_37 rfl rfl ?_
    refine x_demO d_QR_rank_38 w_953 rfl ⟨(Nat.le_of_ble_eq_true rfl), (Nat.le_of_ble_eq_true rfl)⟩ (Nat.le_of_ble_eq_true rfl) (Nat.le_of_ble_eq_true rfl) (Nat.le_of_ble_eq_true rfl) (fun c_ => ?_) (fun c_ => ?_)
    · replace h := x_it h c_
      cases h
      exact ⟨rfl, rfl, rfl⟩
    · replace h := x_ie h c_
      refine x_aload_n d_QR_rank_41 rfl rfl ?_
      refine x_gC d_QR_rank_42 (f_QR_28 rfl) sh_QR hp_QR rfl ?_
      refine x_gC d_QR_rank_45 (f_QR_144 rfl) sh_CT hp_CT rfl ?_
      refine x_iload_n d_QR_rank_48 rfl rfl ?_
      obtain ⟨g_49, h⟩ := x_gd h
      refine x_lR (b := 9 + 13 * l1.toNatClampNeg) d_QR_rank_49 rfl sa_CT_dimensions ha_CT_dimensions g_49 (if_pos (x_ix_lt g_49)) ?_
      refine x_astore (lv2 := [(0, .ref 0), (1, .int l1), (2, .int l2), (3, .int l3), (4, .ref (9 + 13 * l1.toNatClampNeg))]) d_QR_rank_50 (by decide) rfl ?_
      refine x_iload_n d_QR_rank_52 rfl rfl ?_
      refine x_iconst (v := (-1)) d_QR_rank_53 (by decide) ?_
      refine x_icmp_ne (tgt := 64) d_QR_rank_54 (by decide) (fun c_ => ?_) (fun c_ => ?_)
      · replace h := x_ie h c_
        refine x_aload d_QR_rank_64 rfl ?_
        refine x_iload_n d_QR_rank_66 rfl rfl ?_
        refine x_aload d_QR_rank_67 rfl ?_
        refine x_iload_n d_QR_rank_69 rfl rfl ?_
        refine x_iload_n d_QR_rank_70 rfl rfl ?_
        obtain ⟨r71, e71, h⟩ := x_bd h
        refine x_dVi (M2 := M_DM_valueAt) (As := [.int l2, .int l3]) (st := [.int l2, .ref (9 + 13 * l1.toNatClampNeg)]) d_QR_rank_71 w_942 k_DM_valueAt (c_DM_valueAt (x_DM_of (x_ix_lt g_49)) e71) rfl (sh_DM (x_DM_of (x_ix_lt g_49))) (hp_DM (x_DM_of (x_ix_lt g_49))) rfl ⟨Nat.le_of_ble_eq_true rfl, Nat.le_of_ble_eq_true rfl⟩ (Nat.le_of_ble_eq_true rfl) (Nat.le_of_ble_eq_true rfl) (Nat.le_of_ble_eq_true rfl) (Nat.le_of_ble_eq_true rfl) rfl ?_
        obtain ⟨r74, e74, h⟩ := x_bd h
        refine x_dVi (M2 := M_DM_lowerThan) (As := [.int l2, .int r71.1]) (st := []) d_QR_rank_74 w_962 k_DM_lowerThan (c_DM_lowerThan (x_DM_of (x_ix_lt g_49)) e74) rfl (sh_DM (x_DM_of (x_ix_lt g_49))) (hp_DM (x_DM_of (x_ix_lt g_49))) rfl ⟨Nat.le_of_ble_eq_true rfl, Nat.le_of_ble_eq_true rfl⟩ (Nat.le_of_ble_eq_true rfl) (Nat.le_of_ble_eq_true rfl) (Nat.le_of_ble_eq_true rfl) (Nat.le_of_ble_eq_true rfl) rfl ?_
        cases h
        exact x_ti d_QR_rank_77 rfl rfl (Nat.le_of_ble_eq_true rfl) (Nat.le_of_ble_eq_true rfl)
      · replace h := x_it h c_
        refine x_aload d_QR_rank_57 rfl ?_
        refine x_iload_n d_QR_rank_59 rfl rfl ?_
        obtain ⟨r60, e60, h⟩ := x_bd h
        refine x_dVi (M2 := M_DM_distinctAt) (As := [.int l2]) (st := []) d_QR_rank_60 w_958 k_DM_distinctAt (c_DM_distinctAt (x_DM_of (x_ix_lt g_49)) e60) rfl (sh_DM (x_DM_of (x_ix_lt g_49))) (hp_DM (x_DM_of (x_ix_lt g_49))) rfl ⟨Nat.le_of_ble_eq_true rfl, Nat.le_of_ble_eq_true rfl⟩ (Nat.le_of_ble_eq_true rfl) (Nat.le_of_ble_eq_true rfl) (Nat.le_of_ble_eq_true rfl) (Nat.le_of_ble_eq_true rfl) rfl ?_
        cases h
        exact x_ti d_QR_rank_63 rfl rfl (Nat.le_of_ble_eq_true rfl) (Nat.le_of_ble_eq_true rfl)
def B_QR_rank_33   (l1 : Int32) (l2 : Int32) (l3 : Int32) (m : x_m) : Option ((Int32 ⊕ Bool) × x_m) := B_QR_rank_34 l1 l2 l3 0 m
theorem b_QR_rank_33 {G : x_G} {r : (Int32 ⊕ Bool) × x_m}   {l1 : Int32} {l2 : Int32} {l3 : Int32} {m : x_m} (h : B_QR_rank_33 l1 l2 l3 m = some r) : x_W G M_QR_rank (x_rx 7 2) (x_Q G (x_rx 7 2) false (x_pt r)) false x_np (x_hp m) 0 0 [(0, .ref 0), (1, .int l1), (2, .int l2), (3, .int l3)] [] 33 := by
  unfold B_QR_rank_33 at h
  refine x_iconst (v := 0) d_QR_rank_33 (by decide) ?_
  exact b_QR_rank_34 h
def B_QR_rank_29   (l1 : Int32) (l2 : Int32) (l3 : Int32) (m : x_m) : Option ((Int32 ⊕ Bool) × x_m) := B_QR_rank_34 l1 l2 l3 1 m
theorem b_QR_rank_29 {G : x_G} {r : (Int32 ⊕ Bool) × x_m}   {l1 : Int32} {l2 : Int32} {l3 : Int32} {m : x_m} (h : B_QR_rank_29 l1 l2 l3 m = some r) : x_W G M_QR_rank (x_rx 7 2) (x_Q G (x_rx 7 2) false (x_pt r)) false x_np (x_hp m) 0 0 [(0, .ref 0), (1, .int l1), (2, .int l2), (3, .int l3)] [] 29 := by
  unfold B_QR_rank_29 at h
  refine x_iconst (v := 1) d_QR_rank_29 (by decide) ?_
  refine x_goto (tgt := 34) d_QR_rank_30 (by decide) ?_
  exact b_QR_rank_34 h
def F_QR_rank  (a1 : Int32) (a2 : Int32) (a3 : Int32) (m : x_m) : Option ((Int32 ⊕ Bool) × x_m) := ((F_CT_hasLevel a1 a2 m).bind fun r6 => (if r6.1 = 0 then B_QR_rank_33 a1 a2 a3 r6.2 else (if a3 = ((-1)) then B_QR_rank_29 a1 a2 a3 r6.2 else ((F_CT_hasMember a1 a3 r6.2).bind fun r23 => (if r23.1 = 0 then B_QR_rank_33 a1 a2 a3 r23.2 else B_QR_rank_29 a1 a2 a3 r23.2)))))
theorem c_QR_rank {G : x_G} {r : (Int32 ⊕ Bool) × x_m}  {a1 : Int32} {a2 : Int32} {a3 : Int32} {m : x_m} (h : F_QR_rank a1 a2 a3 m = some r) : x_R G M_QR_rank (x_rx 7 2) false [.ref 0, .int a1, .int a2, .int a3] x_np (x_hp m) (x_pt r) := by
  unfold F_QR_rank at h
  show x_W G M_QR_rank (x_rx 7 2) (x_Q G (x_rx 7 2) false (x_pt r)) false x_np (x_hp m) 0 0 [(0, .ref 0), (1, .int a1), (2, .int a2), (3, .int a3)] [] 0
  refine x_aload_n d_QR_rank_0 rfl rfl ?_
  refine x_gC d_QR_rank_1 (f_QR_28 rfl) sh_QR hp_QR rfl ?_
  refine x_iload_n d_QR_rank_4 rfl rfl ?_
  refine x_iload_n d_QR_rank_5 rfl rfl ?_
  obtain ⟨r6, e6, h⟩ := x_bd h
  refine x_dVi (M2 := M_CT_hasLevel) (As := [.int a1, .int a2]) (st := []) d_QR_rank_6 w_933 k_CT_hasLevel (c_CT_hasLevel e6) rfl sh_CT hp_CT rfl ⟨Nat.le_of_ble_eq_true rfl, Nat.le_of_ble_eq_true rfl⟩ (Nat.le_of_ble_eq_true rfl) (Nat.le_of_ble_eq_true rfl) (Nat.le_of_ble_eq_true rfl) (Nat.le_of_ble_eq_true rfl) rfl ?_
  refine x_if_eq (tgt := 33) d_QR_rank_9 (by decide) (fun c_ => ?_) (fun c_ => ?_)
  · replace h := x_it h c_
    exact b_QR_rank_33 h
  · replace h := x_ie h c_
    refine x_iload_n d_QR_rank_12 rfl rfl ?_
    refine x_iconst (v := (-1)) d_QR_rank_13 (by decide) ?_
    refine x_icmp_eq (tgt := 29) d_QR_rank_14 (by decide) (fun c_ => ?_) (fun c_ => ?_)
    · replace h := x_it h c_
      exact b_QR_rank_29 h
    · replace h := x_ie h c_
      refine x_aload_n d_QR_rank_17 rfl rfl ?_
      refine x_gC d_QR_rank_18 (f_QR_28 rfl) sh_QR hp_QR rfl ?_
      refine x_iload_n d_QR_rank_21 rfl rfl ?_
      refine x_iload_n d_QR_rank_22 rfl rfl ?_
      obtain ⟨r23, e23, h⟩ := x_bd h
      refine x_dVi (M2 := M_CT_hasMember) (As := [.int a1, .int a3]) (st := []) d_QR_rank_23 w_938 k_CT_hasMember (c_CT_hasMember e23) rfl sh_CT hp_CT rfl ⟨Nat.le_of_ble_eq_true rfl, Nat.le_of_ble_eq_true rfl⟩ (Nat.le_of_ble_eq_true rfl) (Nat.le_of_ble_eq_true rfl) (Nat.le_of_ble_eq_true rfl) (Nat.le_of_ble_eq_true rfl) rfl ?_
      refine x_if_eq (tgt := 33) d_QR_rank_26 (by decide) (fun c_ => ?_) (fun c_ => ?_)
      · replace h := x_it h c_
        exact b_QR_rank_33 h
      · replace h := x_ie h c_
        exact b_QR_rank_29 h
def F_QR_find  (a1 : Int32) (a2 : Int32) (m : x_m) : Option ((Int32 ⊕ Bool) × x_m) := ((F_CT_hasDimension a1 m).bind fun r5 => (if r5.1 = 0 then some (.inr true, r5.2) else (if r5.2.1 4 4 = 0 then some (.inr false, r5.2) else (if x_ix a1 8 = true then ((F_DM_placeOf (9 + 13 * a1.toNatClampNeg) a2 r5.2).bind fun r25 => some (.inl r25.1, r25.2)) else none))))
theorem c_QR_find {G : x_G} {r : (Int32 ⊕ Bool) × x_m}  {a1 : Int32} {a2 : Int32} {m : x_m} (h : F_QR_find a1 a2 m = some r) : x_R G M_QR_find (x_rx 7 2) false [.ref 0, .int a1, .int a2] x_np (x_hp m) (x_pt r) := by
  unfold F_QR_find at h
  show x_W G M_QR_find (x_rx 7 2) (x_Q G (x_rx 7 2) false (x_pt r)) false x_np (x_hp m) 0 0 [(0, .ref 0), (1, .int a1), (2, .int a2)] [] 0
  refine x_aload_n d_QR_find_0 rfl rfl ?_
  refine x_gC d_QR_find_1 (f_QR_28 rfl) sh_QR hp_QR rfl ?_
  refine x_iload_n d_QR_find_4 rfl rfl ?_
  obtain ⟨r5, e5, h⟩ := x_bd h
  refine x_dVi (M2 := M_CT_hasDimension) (As := [.int a1]) (st := []) d_QR_find_5 w_922 k_CT_hasDimension (c_CT_hasDimension e5) rfl sh_CT hp_CT rfl ⟨Nat.le_of_ble_eq_true rfl, Nat.le_of_ble_eq_true rfl⟩ (Nat.le_of_ble_eq_true rfl) (Nat.le_of_ble_eq_true rfl) (Nat.le_of_ble_eq_true rfl) (Nat.le_of_ble_eq_true rfl) rfl ?_
  refine x_dem d_QR_find_8 w_881 rfl ⟨(Nat.le_of_ble_eq_true rfl), (Nat.le_of_ble_eq_true rfl)⟩ (Nat.le_of_ble_eq_true rfl) (Nat.le_of_ble_eq_true rfl) (Nat.le_of_ble_eq_true rfl) (fun c_ => ?_) (fun c_ => ?_)
  · replace h := x_it h c_
    cases h
    exact ⟨rfl, rfl, rfl⟩
  · replace h := x_ie h c_
    refine x_aload_n d_QR_find_11 rfl rfl ?_
    refine x_demO d_QR_find_12 w_953 rfl ⟨(Nat.le_of_ble_eq_true rfl), (Nat.le_of_ble_eq_true rfl)⟩ (Nat.le_of_ble_eq_true rfl) (Nat.le_of_ble_eq_true rfl) (Nat.le_of_ble_eq_true rfl) (fun c_ => ?_) (fun c_ => ?_)
    · replace h := x_it h c_
      cases h
      exact ⟨rfl, rfl, rfl⟩
    · replace h := x_ie h c_
      refine x_aload_n d_QR_find_15 rfl rfl ?_
      refine x_gC d_QR_find_16 (f_QR_28 rfl) sh_QR hp_QR rfl ?_
      refine x_gC d_QR_find_19 (f_QR_144 rfl) sh_CT hp_CT rfl ?_
      refine x_iload_n d_QR_find_22 rfl rfl ?_
      obtain ⟨g_23, h⟩ := x_gd h
      refine x_lR (b := 9 + 13 * a1.toNatClampNeg) d_QR_find_23 rfl sa_CT_dimensions ha_CT_dimensions g_23 (if_pos (x_ix_lt g_23)) ?_
      refine x_iload_n d_QR_find_24 rfl rfl ?_
      obtain ⟨r25, e25, h⟩ := x_bd h
      refine x_dVi (M2 := M_DM_placeOf) (As := [.int a2]) (st := []) d_QR_find_25 w_970 k_DM_placeOf (c_DM_placeOf (x_DM_of (x_ix_lt g_23)) e25) rfl (sh_DM (x_DM_of (x_ix_lt g_23))) (hp_DM (x_DM_of (x_ix_lt g_23))) rfl ⟨Nat.le_of_ble_eq_true rfl, Nat.le_of_ble_eq_true rfl⟩ (Nat.le_of_ble_eq_true rfl) (Nat.le_of_ble_eq_true rfl) (Nat.le_of_ble_eq_true rfl) (Nat.le_of_ble_eq_true rfl) rfl ?_
      cases h
      exact x_ti d_QR_find_28 rfl rfl (Nat.le_of_ble_eq_true rfl) (Nat.le_of_ble_eq_true rfl)
def B_QR_letter_20   (l1 : Int32) (l2 : Int32) (s0 : Int32) (m : x_m) : Option ((Int32 ⊕ Bool) × x_m) := (if s0 = 0 then some (.inr true, m) else ((F_NM_letterAt l1 l2 m).bind fun r32 => some (.inl r32.1, r32.2)))
theorem b_QR_letter_20 {G : x_G} {r : (Int32 ⊕ Bool) × x_m}   {l1 : Int32} {l2 : Int32} {s0 : Int32} {m : x_m} (h : B_QR_letter_20 l1 l2 s0 m = some r) : x_W G M_QR_letter (x_rx 7 1) (x_Q G (x_rx 7 1) false (x_pt r)) false x_np (x_hp m) 0 0 [(0, .ref 0), (1, .int l1), (2, .int l2)] [.int s0] 20 := by
  unfold B_QR_letter_20 at h
  refine x_dem d_QR_letter_20 w_881 rfl ⟨(Nat.le_of_ble_eq_true rfl), (Nat.le_of_ble_eq_true rfl)⟩ (Nat.le_of_ble_eq_true rfl) (Nat.le_of_ble_eq_true rfl) (Nat.le_of_ble_eq_true rfl) (fun c_ => ?_) (fun c_ => ?_)
  · replace h := x_it h c_
    cases h
    exact ⟨rfl, rfl, rfl⟩
  · replace h := x_ie h c_
    refine x_aload_n d_QR_letter_23 rfl rfl ?_
    refine x_gC d_QR_letter_24 (f_QR_28 rfl) sh_QR hp_QR rfl ?_
    refine x_gC d_QR_letter_27 (f_QR_183 rfl) sh_CT hp_CT rfl ?_
    refine x_iload_n d_QR_letter_30 rfl rfl ?_
    refine x_iload_n d_QR_letter_31 rfl rfl ?_
    obtain ⟨r32, e32, h⟩ := x_bd h
    refine x_dVi (M2 := M_NM_letterAt) (As := [.int l1, .int l2]) (st := []) d_QR_letter_32 w_992 k_NM_letterAt (c_NM_letterAt e32) rfl sh_NM hp_NM rfl ⟨Nat.le_of_ble_eq_true rfl, Nat.le_of_ble_eq_true rfl⟩ (Nat.le_of_ble_eq_true rfl) (Nat.le_of_ble_eq_true rfl) (Nat.le_of_ble_eq_true rfl) (Nat.le_of_ble_eq_true rfl) rfl ?_
    cases h
    exact x_ti d_QR_letter_35 rfl rfl (Nat.le_of_ble_eq_true rfl) (Nat.le_of_ble_eq_true rfl)
def B_QR_letter_19   (l1 : Int32) (l2 : Int32) (m : x_m) : Option ((Int32 ⊕ Bool) × x_m) := B_QR_letter_20 l1 l2 0 m
theorem b_QR_letter_19 {G : x_G} {r : (Int32 ⊕ Bool) × x_m}   {l1 : Int32} {l2 : Int32} {m : x_m} (h : B_QR_letter_19 l1 l2 m = some r) : x_W G M_QR_letter (x_rx 7 1) (x_Q G (x_rx 7 1) false (x_pt r)) false x_np (x_hp m) 0 0 [(0, .ref 0), (1, .int l1), (2, .int l2)] [] 19 := by
  unfold B_QR_letter_19 at h
  refine x_iconst (v := 0) d_QR_letter_19 (by decide) ?_
  exact b_QR_letter_20 h
def F_QR_letter  (a1 : Int32) (a2 : Int32) (m : x_m) : Option ((Int32 ⊕ Bool) × x_m) := ((F_CT_hasName a1 m).bind fun r5 => (if r5.1 = 0 then B_QR_letter_19 a1 a2 r5.2 else (if a2 < 0 then B_QR_letter_19 a1 a2 r5.2 else B_QR_letter_20 a1 a2 1 r5.2)))
theorem c_QR_letter {G : x_G} {r : (Int32 ⊕ Bool) × x_m}  {a1 : Int32} {a2 : Int32} {m : x_m} (h : F_QR_letter a1 a2 m = some r) : x_R G M_QR_letter (x_rx 7 1) false [.ref 0, .int a1, .int a2] x_np (x_hp m) (x_pt r) := by
  unfold F_QR_letter at h
  show x_W G M_QR_letter (x_rx 7 1) (x_Q G (x_rx 7 1) false (x_pt r)) false x_np (x_hp m) 0 0 [(0, .ref 0), (1, .int a1), (2, .int a2)] [] 0
  refine x_aload_n d_QR_letter_0 rfl rfl ?_
  refine x_gC d_QR_letter_1 (f_QR_28 rfl) sh_QR hp_QR rfl ?_
  refine x_iload_n d_QR_letter_4 rfl rfl ?_
  obtain ⟨r5, e5, h⟩ := x_bd h
  refine x_dVi (M2 := M_CT_hasName) (As := [.int a1]) (st := []) d_QR_letter_5 w_981 k_CT_hasName (c_CT_hasName e5) rfl sh_CT hp_CT rfl ⟨Nat.le_of_ble_eq_true rfl, Nat.le_of_ble_eq_true rfl⟩ (Nat.le_of_ble_eq_true rfl) (Nat.le_of_ble_eq_true rfl) (Nat.le_of_ble_eq_true rfl) (Nat.le_of_ble_eq_true rfl) rfl ?_
  refine x_if_eq (tgt := 19) d_QR_letter_8 (by decide) (fun c_ => ?_) (fun c_ => ?_)
  · replace h := x_it h c_
    exact b_QR_letter_19 h
  · replace h := x_ie h c_
    refine x_iload_n d_QR_letter_11 rfl rfl ?_
    refine x_if_lt (tgt := 19) d_QR_letter_12 (by decide) (fun c_ => ?_) (fun c_ => ?_)
    · replace h := x_it h c_
      exact b_QR_letter_19 h
    · replace h := x_ie h c_
      refine x_iconst (v := 1) d_QR_letter_15 (by decide) ?_
      refine x_goto (tgt := 20) d_QR_letter_16 (by decide) ?_
      exact b_QR_letter_20 h
def B_QR_item_56   (s0 : Int32) (m : x_m) : Option ((Int32 ⊕ Bool) × x_m) := some (.inl s0, m)
theorem b_QR_item_56 {G : x_G} {r : (Int32 ⊕ Bool) × x_m}   {s0 : Int32} {m : x_m} (h : B_QR_item_56 s0 m = some r) : x_W G M_QR_item (x_rx 7 1) (x_Q G (x_rx 7 1) false (x_pt r)) false x_np (x_hp m) 1 6 [] [.int s0] 56 := by
  unfold B_QR_item_56 at h
  cases h
  exact x_ti d_QR_item_56 rfl rfl (Nat.le_of_ble_eq_true rfl) (Nat.le_of_ble_eq_true rfl)
def B_QR_item_34   (l1 : Int32) (l2 : Int32) (l3 : Nat) (s0 : Int32) (m : x_m) : Option ((Int32 ⊕ Bool) × x_m) := (if s0 = 0 then some (.inr true, m) else (if l2 = 0 then (if x_ix l1 24 = true then B_QR_item_56 (m.2.1 (l3 + 1) l1.toNatClampNeg) m else none) else (if x_ix l1 24 = true then B_QR_item_56 (m.2.1 (l3 + 2) l1.toNatClampNeg) m else none)))
theorem b_QR_item_34 {G : x_G} {r : (Int32 ⊕ Bool) × x_m}   {l1 : Int32} {l2 : Int32} {l3 : Nat} (hl3 : x_QB l3) {s0 : Int32} {m : x_m} (h : B_QR_item_34 l1 l2 l3 s0 m = some r) : x_W G M_QR_item (x_rx 7 1) (x_Q G (x_rx 7 1) false (x_pt r)) false x_np (x_hp m) 0 0 [(1, .int l1), (2, .int l2), (3, .ref l3)] [.int s0] 34 := by
  unfold B_QR_item_34 at h
  refine x_dem d_QR_item_34 w_881 rfl ⟨(Nat.le_of_ble_eq_true rfl), (Nat.le_of_ble_eq_true rfl)⟩ (Nat.le_of_ble_eq_true rfl) (Nat.le_of_ble_eq_true rfl) (Nat.le_of_ble_eq_true rfl) (fun c_ => ?_) (fun c_ => ?_)
  · replace h := x_it h c_
    cases h
    exact ⟨rfl, rfl, rfl⟩
  · replace h := x_ie h c_
    refine x_iload_n d_QR_item_37 rfl rfl ?_
    refine x_if_ne (tgt := 50) d_QR_item_38 (by decide) (fun c_ => ?_) (fun c_ => ?_)
    · replace h := x_ie h c_
      refine x_aload_n d_QR_item_50 rfl rfl ?_
      refine x_gC d_QR_item_51 (f_QR_196 rfl) (sh_QU hl3) (hp_QU hl3) rfl ?_
      refine x_iload_n d_QR_item_54 rfl rfl ?_
      obtain ⟨g_55, h⟩ := x_gd h
      refine x_lI d_QR_item_55 rfl (sa_QU_itemTargets hl3) (ha_QU_itemTargets hl3) g_55 ?_
      refine x_sbk [] (lv2 := []) rfl ?_; exact b_QR_item_56 h
    · replace h := x_it h c_
      refine x_aload_n d_QR_item_41 rfl rfl ?_
      refine x_gC d_QR_item_42 (f_QR_192 rfl) (sh_QU hl3) (hp_QU hl3) rfl ?_
      refine x_iload_n d_QR_item_45 rfl rfl ?_
      obtain ⟨g_46, h⟩ := x_gd h
      refine x_lI d_QR_item_46 rfl (sa_QU_itemTypes hl3) (ha_QU_itemTypes hl3) g_46 ?_
      refine x_goto (tgt := 56) d_QR_item_47 (by decide) ?_
      refine x_sbk [] (lv2 := []) rfl ?_; exact b_QR_item_56 h
def B_QR_item_33   (l1 : Int32) (l2 : Int32) (l3 : Nat) (m : x_m) : Option ((Int32 ⊕ Bool) × x_m) := B_QR_item_34 l1 l2 l3 0 m
theorem b_QR_item_33 {G : x_G} {r : (Int32 ⊕ Bool) × x_m}   {l1 : Int32} {l2 : Int32} {l3 : Nat} (hl3 : x_QB l3) {m : x_m} (h : B_QR_item_33 l1 l2 l3 m = some r) : x_W G M_QR_item (x_rx 7 1) (x_Q G (x_rx 7 1) false (x_pt r)) false x_np (x_hp m) 0 0 [(1, .int l1), (2, .int l2), (3, .ref l3)] [] 33 := by
  unfold B_QR_item_33 at h
  refine x_iconst (v := 0) d_QR_item_33 (by decide) ?_
  exact b_QR_item_34 hl3 h
def B_QR_item_29   (l1 : Int32) (l2 : Int32) (l3 : Nat) (m : x_m) : Option ((Int32 ⊕ Bool) × x_m) := B_QR_item_34 l1 l2 l3 1 m
theorem b_QR_item_29 {G : x_G} {r : (Int32 ⊕ Bool) × x_m}   {l1 : Int32} {l2 : Int32} {l3 : Nat} (hl3 : x_QB l3) {m : x_m} (h : B_QR_item_29 l1 l2 l3 m = some r) : x_W G M_QR_item (x_rx 7 1) (x_Q G (x_rx 7 1) false (x_pt r)) false x_np (x_hp m) 0 0 [(1, .int l1), (2, .int l2), (3, .ref l3)] [] 29 := by
  unfold B_QR_item_29 at h
  refine x_iconst (v := 1) d_QR_item_29 (by decide) ?_
  refine x_goto (tgt := 34) d_QR_item_30 (by decide) ?_
  exact b_QR_item_34 hl3 h
def F_QR_item  (a1 : Int32) (a2 : Int32) (m : x_m) : Option ((Int32 ⊕ Bool) × x_m) := (if x_qb (m.2.2.1 114 3) = true then (if a1 < 0 then B_QR_item_33 a1 a2 (m.2.2.1 114 3) m else (if (m.1 (m.2.2.1 114 3) 0) ≤ a1 then B_QR_item_33 a1 a2 (m.2.2.1 114 3) m else (if a2 = 0 then B_QR_item_29 a1 a2 (m.2.2.1 114 3) m else (if a2 = 1 then B_QR_item_29 a1 a2 (m.2.2.1 114 3) m else B_QR_item_33 a1 a2 (m.2.2.1 114 3) m)))) else none)
theorem c_QR_item {G : x_G} {r : (Int32 ⊕ Bool) × x_m}  {a1 : Int32} {a2 : Int32} {m : x_m} (h : F_QR_item a1 a2 m = some r) : x_R G M_QR_item (x_rx 7 1) false [.ref 0, .int a1, .int a2] x_np (x_hp m) (x_pt r) := by
  unfold F_QR_item at h
  show x_W G M_QR_item (x_rx 7 1) (x_Q G (x_rx 7 1) false (x_pt r)) false x_np (x_hp m) 0 0 [(0, .ref 0), (1, .int a1), (2, .int a2)] [] 0
  refine x_aload_n d_QR_item_0 rfl rfl ?_
  refine x_gC d_QR_item_1 (f_QR_44 rfl) sh_QR hp_QR rfl ?_
  refine x_gR d_QR_item_4 (f_QR_71 rfl) sh_QG hp_QG rfl ?_
  obtain ⟨g_4, h⟩ := x_gd h
  refine x_astore_n (lv2 := [(0, .ref 0), (1, .int a1), (2, .int a2), (3, .ref (m.2.2.1 114 3))]) d_QR_item_7 rfl (by decide) rfl ?_
  refine x_iload_n d_QR_item_8 rfl rfl ?_
  refine x_if_lt (tgt := 33) d_QR_item_9 (by decide) (fun c_ => ?_) (fun c_ => ?_)
  · replace h := x_it h c_
    refine x_sbk [1, 2, 3] (lv2 := [(1, .int a1), (2, .int a2), (3, .ref (m.2.2.1 114 3))]) rfl ?_; exact b_QR_item_33 (x_qb_ok g_4) h
  · replace h := x_ie h c_
    refine x_iload_n d_QR_item_12 rfl rfl ?_
    refine x_aload_n d_QR_item_13 rfl rfl ?_
    refine x_gI d_QR_item_14 (f_QR_117 rfl) (sh_QU (x_qb_ok g_4)) (hp_QU (x_qb_ok g_4)) rfl ?_
    refine x_icmp_ge (tgt := 33) d_QR_item_17 (by decide) (fun c_ => ?_) (fun c_ => ?_)
    · replace h := x_it h c_
      refine x_sbk [1, 2, 3] (lv2 := [(1, .int a1), (2, .int a2), (3, .ref (m.2.2.1 114 3))]) rfl ?_; exact b_QR_item_33 (x_qb_ok g_4) h
    · replace h := x_ie h c_
      refine x_iload_n d_QR_item_20 rfl rfl ?_
      refine x_if_eq (tgt := 29) d_QR_item_21 (by decide) (fun c_ => ?_) (fun c_ => ?_)
      · replace h := x_it h c_
        refine x_sbk [1, 2, 3] (lv2 := [(1, .int a1), (2, .int a2), (3, .ref (m.2.2.1 114 3))]) rfl ?_; exact b_QR_item_29 (x_qb_ok g_4) h
      · replace h := x_ie h c_
        refine x_iload_n d_QR_item_24 rfl rfl ?_
        refine x_iconst (v := 1) d_QR_item_25 (by decide) ?_
        refine x_icmp_ne (tgt := 33) d_QR_item_26 (by decide) (fun c_ => ?_) (fun c_ => ?_)
        · replace h := x_ie h c_
          refine x_sbk [1, 2, 3] (lv2 := [(1, .int a1), (2, .int a2), (3, .ref (m.2.2.1 114 3))]) rfl ?_; exact b_QR_item_33 (x_qb_ok g_4) h
        · replace h := x_it h c_
          refine x_sbk [1, 2, 3] (lv2 := [(1, .int a1), (2, .int a2), (3, .ref (m.2.2.1 114 3))]) rfl ?_; exact b_QR_item_29 (x_qb_ok g_4) h
def B_QR_group_25   (l1 : Int32) (l2 : Nat) (s0 : Int32) (m : x_m) : Option ((Int32 ⊕ Bool) × x_m) := (if s0 = 0 then some (.inr true, m) else (if x_ix l1 8 = true then some (.inl (m.2.1 (l2 + 4) l1.toNatClampNeg), m) else none))
theorem b_QR_group_25 {G : x_G} {r : (Int32 ⊕ Bool) × x_m}   {l1 : Int32} {l2 : Nat} (hl2 : x_QB l2) {s0 : Int32} {m : x_m} (h : B_QR_group_25 l1 l2 s0 m = some r) : x_W G M_QR_group (x_rx 7 1) (x_Q G (x_rx 7 1) false (x_pt r)) false x_np (x_hp m) 0 0 [(1, .int l1), (2, .ref l2)] [.int s0] 25 := by
  unfold B_QR_group_25 at h
  refine x_dem d_QR_group_25 w_881 rfl ⟨(Nat.le_of_ble_eq_true rfl), (Nat.le_of_ble_eq_true rfl)⟩ (Nat.le_of_ble_eq_true rfl) (Nat.le_of_ble_eq_true rfl) (Nat.le_of_ble_eq_true rfl) (fun c_ => ?_) (fun c_ => ?_)
  · replace h := x_it h c_
    cases h
    exact ⟨rfl, rfl, rfl⟩
  · replace h := x_ie h c_
    refine x_aload_n d_QR_group_28 rfl rfl ?_
    refine x_gC d_QR_group_29 (f_QR_199 rfl) (sh_QU hl2) (hp_QU hl2) rfl ?_
    refine x_iload_n d_QR_group_32 rfl rfl ?_
    obtain ⟨g_33, h⟩ := x_gd h
    refine x_lI d_QR_group_33 rfl (sa_QU_columns hl2) (ha_QU_columns hl2) g_33 ?_
    cases h
    exact x_ti d_QR_group_34 rfl rfl (Nat.le_of_ble_eq_true rfl) (Nat.le_of_ble_eq_true rfl)
def B_QR_group_24   (l1 : Int32) (l2 : Nat) (m : x_m) : Option ((Int32 ⊕ Bool) × x_m) := B_QR_group_25 l1 l2 0 m
theorem b_QR_group_24 {G : x_G} {r : (Int32 ⊕ Bool) × x_m}   {l1 : Int32} {l2 : Nat} (hl2 : x_QB l2) {m : x_m} (h : B_QR_group_24 l1 l2 m = some r) : x_W G M_QR_group (x_rx 7 1) (x_Q G (x_rx 7 1) false (x_pt r)) false x_np (x_hp m) 0 0 [(1, .int l1), (2, .ref l2)] [] 24 := by
  unfold B_QR_group_24 at h
  refine x_iconst (v := 0) d_QR_group_24 (by decide) ?_
  exact b_QR_group_25 hl2 h
def F_QR_group  (a1 : Int32) (m : x_m) : Option ((Int32 ⊕ Bool) × x_m) := (if x_qb (m.2.2.1 114 3) = true then (if a1 < 0 then B_QR_group_24 a1 (m.2.2.1 114 3) m else (if (m.1 (m.2.2.1 114 3) 4) ≤ a1 then B_QR_group_24 a1 (m.2.2.1 114 3) m else B_QR_group_25 a1 (m.2.2.1 114 3) 1 m)) else none)
theorem c_QR_group {G : x_G} {r : (Int32 ⊕ Bool) × x_m}  {a1 : Int32} {m : x_m} (h : F_QR_group a1 m = some r) : x_R G M_QR_group (x_rx 7 1) false [.ref 0, .int a1] x_np (x_hp m) (x_pt r) := by
  unfold F_QR_group at h
  show x_W G M_QR_group (x_rx 7 1) (x_Q G (x_rx 7 1) false (x_pt r)) false x_np (x_hp m) 0 0 [(0, .ref 0), (1, .int a1)] [] 0
  refine x_aload_n d_QR_group_0 rfl rfl ?_
  refine x_gC d_QR_group_1 (f_QR_44 rfl) sh_QR hp_QR rfl ?_
  refine x_gR d_QR_group_4 (f_QR_71 rfl) sh_QG hp_QG rfl ?_
  obtain ⟨g_4, h⟩ := x_gd h
  refine x_astore_n (lv2 := [(0, .ref 0), (1, .int a1), (2, .ref (m.2.2.1 114 3))]) d_QR_group_7 rfl (by decide) rfl ?_
  refine x_iload_n d_QR_group_8 rfl rfl ?_
  refine x_if_lt (tgt := 24) d_QR_group_9 (by decide) (fun c_ => ?_) (fun c_ => ?_)
  · replace h := x_it h c_
    refine x_sbk [1, 2] (lv2 := [(1, .int a1), (2, .ref (m.2.2.1 114 3))]) rfl ?_; exact b_QR_group_24 (x_qb_ok g_4) h
  · replace h := x_ie h c_
    refine x_iload_n d_QR_group_12 rfl rfl ?_
    refine x_aload_n d_QR_group_13 rfl rfl ?_
    refine x_gI d_QR_group_14 (f_QR_120 rfl) (sh_QU (x_qb_ok g_4)) (hp_QU (x_qb_ok g_4)) rfl ?_
    refine x_icmp_ge (tgt := 24) d_QR_group_17 (by decide) (fun c_ => ?_) (fun c_ => ?_)
    · replace h := x_it h c_
      refine x_sbk [1, 2] (lv2 := [(1, .int a1), (2, .ref (m.2.2.1 114 3))]) rfl ?_; exact b_QR_group_24 (x_qb_ok g_4) h
    · replace h := x_ie h c_
      refine x_iconst (v := 1) d_QR_group_20 (by decide) ?_
      refine x_goto (tgt := 25) d_QR_group_21 (by decide) ?_
      refine x_sbk [1, 2] (lv2 := [(1, .int a1), (2, .ref (m.2.2.1 114 3))]) rfl ?_; exact b_QR_group_25 (x_qb_ok g_4) h
def B_QR_set_25   (l1 : Int32) (l2 : Nat) (s0 : Int32) (m : x_m) : Option ((Int32 ⊕ Bool) × x_m) := (if s0 = 0 then some (.inr true, m) else (if x_ix l1 32 = true then some (.inl (m.2.1 (l2 + 5) l1.toNatClampNeg), m) else none))
theorem b_QR_set_25 {G : x_G} {r : (Int32 ⊕ Bool) × x_m}   {l1 : Int32} {l2 : Nat} (hl2 : x_QB l2) {s0 : Int32} {m : x_m} (h : B_QR_set_25 l1 l2 s0 m = some r) : x_W G M_QR_set (x_rx 7 1) (x_Q G (x_rx 7 1) false (x_pt r)) false x_np (x_hp m) 0 0 [(1, .int l1), (2, .ref l2)] [.int s0] 25 := by
  unfold B_QR_set_25 at h
  refine x_dem d_QR_set_25 w_881 rfl ⟨(Nat.le_of_ble_eq_true rfl), (Nat.le_of_ble_eq_true rfl)⟩ (Nat.le_of_ble_eq_true rfl) (Nat.le_of_ble_eq_true rfl) (Nat.le_of_ble_eq_true rfl) (fun c_ => ?_) (fun c_ => ?_)
  · replace h := x_it h c_
    cases h
    exact ⟨rfl, rfl, rfl⟩
  · replace h := x_ie h c_
    refine x_aload_n d_QR_set_28 rfl rfl ?_
    refine x_gC d_QR_set_29 (f_QR_202 rfl) (sh_QU hl2) (hp_QU hl2) rfl ?_
    refine x_iload_n d_QR_set_32 rfl rfl ?_
    obtain ⟨g_33, h⟩ := x_gd h
    refine x_lI d_QR_set_33 rfl (sa_QU_sets hl2) (ha_QU_sets hl2) g_33 ?_
    cases h
    exact x_ti d_QR_set_34 rfl rfl (Nat.le_of_ble_eq_true rfl) (Nat.le_of_ble_eq_true rfl)
def B_QR_set_24   (l1 : Int32) (l2 : Nat) (m : x_m) : Option ((Int32 ⊕ Bool) × x_m) := B_QR_set_25 l1 l2 0 m
theorem b_QR_set_24 {G : x_G} {r : (Int32 ⊕ Bool) × x_m}   {l1 : Int32} {l2 : Nat} (hl2 : x_QB l2) {m : x_m} (h : B_QR_set_24 l1 l2 m = some r) : x_W G M_QR_set (x_rx 7 1) (x_Q G (x_rx 7 1) false (x_pt r)) false x_np (x_hp m) 0 0 [(1, .int l1), (2, .ref l2)] [] 24 := by
  unfold B_QR_set_24 at h
  refine x_iconst (v := 0) d_QR_set_24 (by decide) ?_
  exact b_QR_set_25 hl2 h
def F_QR_set  (a1 : Int32) (m : x_m) : Option ((Int32 ⊕ Bool) × x_m) := (if x_qb (m.2.2.1 114 3) = true then (if a1 < 0 then B_QR_set_24 a1 (m.2.2.1 114 3) m else (if (m.1 (m.2.2.1 114 3) 6) ≤ a1 then B_QR_set_24 a1 (m.2.2.1 114 3) m else B_QR_set_25 a1 (m.2.2.1 114 3) 1 m)) else none)
theorem c_QR_set {G : x_G} {r : (Int32 ⊕ Bool) × x_m}  {a1 : Int32} {m : x_m} (h : F_QR_set a1 m = some r) : x_R G M_QR_set (x_rx 7 1) false [.ref 0, .int a1] x_np (x_hp m) (x_pt r) := by
  unfold F_QR_set at h
  show x_W G M_QR_set (x_rx 7 1) (x_Q G (x_rx 7 1) false (x_pt r)) false x_np (x_hp m) 0 0 [(0, .ref 0), (1, .int a1)] [] 0
  refine x_aload_n d_QR_set_0 rfl rfl ?_
  refine x_gC d_QR_set_1 (f_QR_44 rfl) sh_QR hp_QR rfl ?_
  refine x_gR d_QR_set_4 (f_QR_71 rfl) sh_QG hp_QG rfl ?_
  obtain ⟨g_4, h⟩ := x_gd h
  refine x_astore_n (lv2 := [(0, .ref 0), (1, .int a1), (2, .ref (m.2.2.1 114 3))]) d_QR_set_7 rfl (by decide) rfl ?_
  refine x_iload_n d_QR_set_8 rfl rfl ?_
  refine x_if_lt (tgt := 24) d_QR_set_9 (by decide) (fun c_ => ?_) (fun c_ => ?_)
  · replace h := x_it h c_
    refine x_sbk [1, 2] (lv2 := [(1, .int a1), (2, .ref (m.2.2.1 114 3))]) rfl ?_; exact b_QR_set_24 (x_qb_ok g_4) h
  · replace h := x_ie h c_
    refine x_iload_n d_QR_set_12 rfl rfl ?_
    refine x_aload_n d_QR_set_13 rfl rfl ?_
    refine x_gI d_QR_set_14 (f_QR_123 rfl) (sh_QU (x_qb_ok g_4)) (hp_QU (x_qb_ok g_4)) rfl ?_
    refine x_icmp_ge (tgt := 24) d_QR_set_17 (by decide) (fun c_ => ?_) (fun c_ => ?_)
    · replace h := x_it h c_
      refine x_sbk [1, 2] (lv2 := [(1, .int a1), (2, .ref (m.2.2.1 114 3))]) rfl ?_; exact b_QR_set_24 (x_qb_ok g_4) h
    · replace h := x_ie h c_
      refine x_iconst (v := 1) d_QR_set_20 (by decide) ?_
      refine x_goto (tgt := 25) d_QR_set_21 (by decide) ?_
      refine x_sbk [1, 2] (lv2 := [(1, .int a1), (2, .ref (m.2.2.1 114 3))]) rfl ?_; exact b_QR_set_25 (x_qb_ok g_4) h
def F_QR_pick  (a1 : Int32) (a2 : Int32) (m : x_m) : Option ((Int32 ⊕ Bool) × x_m) := ((F_CT_hasMember a1 a2 m).bind fun r6 => (if r6.1 = 0 then some (.inr true, r6.2) else (if r6.2.1 4 4 = 0 then some (.inr false, r6.2) else (if x_ix a1 8 = true then some (.inl (r6.2.1 (9 + 13 * a1.toNatClampNeg) 2), x_wS r6.2 (9 + 13 * a1.toNatClampNeg) 2 a2) else none))))
theorem c_QR_pick {G : x_G} {r : (Int32 ⊕ Bool) × x_m}  {a1 : Int32} {a2 : Int32} {m : x_m} (h : F_QR_pick a1 a2 m = some r) : x_R G M_QR_pick (x_rx 7 2) false [.ref 0, .int a1, .int a2] x_np (x_hp m) (x_pt r) := by
  unfold F_QR_pick at h
  show x_W G M_QR_pick (x_rx 7 2) (x_Q G (x_rx 7 2) false (x_pt r)) false x_np (x_hp m) 0 0 [(0, .ref 0), (1, .int a1), (2, .int a2)] [] 0
  refine x_aload_n d_QR_pick_0 rfl rfl ?_
  refine x_gC d_QR_pick_1 (f_QR_28 rfl) sh_QR hp_QR rfl ?_
  refine x_iload_n d_QR_pick_4 rfl rfl ?_
  refine x_iload_n d_QR_pick_5 rfl rfl ?_
  obtain ⟨r6, e6, h⟩ := x_bd h
  refine x_dVi (M2 := M_CT_hasMember) (As := [.int a1, .int a2]) (st := []) d_QR_pick_6 w_938 k_CT_hasMember (c_CT_hasMember e6) rfl sh_CT hp_CT rfl ⟨Nat.le_of_ble_eq_true rfl, Nat.le_of_ble_eq_true rfl⟩ (Nat.le_of_ble_eq_true rfl) (Nat.le_of_ble_eq_true rfl) (Nat.le_of_ble_eq_true rfl) (Nat.le_of_ble_eq_true rfl) rfl ?_
  refine x_dem d_QR_pick_9 w_881 rfl ⟨(Nat.le_of_ble_eq_true rfl), (Nat.le_of_ble_eq_true rfl)⟩ (Nat.le_of_ble_eq_true rfl) (Nat.le_of_ble_eq_true rfl) (Nat.le_of_ble_eq_true rfl) (fun c_ => ?_) (fun c_ => ?_)
  · replace h := x_it h c_
    cases h
    exact ⟨rfl, rfl, rfl⟩
  · replace h := x_ie h c_
    refine x_aload_n d_QR_pick_12 rfl rfl ?_
    refine x_demO d_QR_pick_13 w_953 rfl ⟨(Nat.le_of_ble_eq_true rfl), (Nat.le_of_ble_eq_true rfl)⟩ (Nat.le_of_ble_eq_true rfl) (Nat.le_of_ble_eq_true rfl) (Nat.le_of_ble_eq_true rfl) (fun c_ => ?_) (fun c_ => ?_)
    · replace h := x_it h c_
      cases h
      exact ⟨rfl, rfl, rfl⟩
    · replace h := x_ie h c_
      refine x_aload_n d_QR_pick_16 rfl rfl ?_
      refine x_gC d_QR_pick_17 (f_QR_28 rfl) sh_QR hp_QR rfl ?_
      refine x_gC d_QR_pick_20 (f_QR_144 rfl) sh_CT hp_CT rfl ?_
      refine x_iload_n d_QR_pick_23 rfl rfl ?_
      obtain ⟨g_24, h⟩ := x_gd h
      refine x_lR (b := 9 + 13 * a1.toNatClampNeg) d_QR_pick_24 rfl sa_CT_dimensions ha_CT_dimensions g_24 (if_pos (x_ix_lt g_24)) ?_
      refine x_astore_n (lv2 := [(0, .ref 0), (1, .int a1), (2, .int a2), (3, .ref (9 + 13 * a1.toNatClampNeg))]) d_QR_pick_25 rfl (by decide) rfl ?_
      refine x_aload_n d_QR_pick_26 rfl rfl ?_
      refine x_gI d_QR_pick_27 (f_QR_205 rfl) (sh_DM (x_DM_of (x_ix_lt g_24))) (hp_DM (x_DM_of (x_ix_lt g_24))) rfl ?_
      refine x_istore (lv2 := [(0, .ref 0), (1, .int a1), (2, .int a2), (3, .ref (9 + 13 * a1.toNatClampNeg)), (4, .int (r6.2.1 (9 + 13 * a1.toNatClampNeg) 2))]) d_QR_pick_30 (by decide) rfl ?_
      refine x_aload_n d_QR_pick_32 rfl rfl ?_
      refine x_iload_n d_QR_pick_33 rfl rfl ?_
      refine x_pI d_QR_pick_34 (f_QR_205 rfl) tb_DM rfl (sh_DM (x_DM_of (x_ix_lt g_24))) (hp_DM (x_DM_of (x_ix_lt g_24))) rfl ⟨rfl, rfl⟩ ?_
      refine x_iload d_QR_pick_37 rfl ?_
      cases h
      exact x_ti d_QR_pick_39 rfl rfl (Nat.le_of_ble_eq_true rfl) (Nat.le_of_ble_eq_true rfl)
def F_QR_holds   (m : x_m) : Option ((Int32 ⊕ Bool) × x_m) := (if x_qb (m.2.2.1 114 3) = true then ((F_QU_isAsked (m.2.2.1 114 3) m).bind fun r9 => (if r9.1 = 0 then some (.inr false, r9.2) else ((F_CN_isTrueFor (m.2.2.1 114 3 + 6) r9.2).bind fun r33 => (if x_b1 r33.1 = true then some (.inl r33.1, r33.2) else none)))) else none)
theorem c_QR_holds {G : x_G} {r : (Int32 ⊕ Bool) × x_m}   {m : x_m} (h : F_QR_holds m = some r) : x_R G M_QR_holds (x_rx 6 1) false [.ref 0] x_np (x_hp m) (x_pt r) := by
  unfold F_QR_holds at h
  show x_W G M_QR_holds (x_rx 6 1) (x_Q G (x_rx 6 1) false (x_pt r)) false x_np (x_hp m) 0 0 [(0, .ref 0)] [] 0
  refine x_aload_n d_QR_holds_0 rfl rfl ?_
  refine x_gC d_QR_holds_1 (f_QR_44 rfl) sh_QR hp_QR rfl ?_
  refine x_gR d_QR_holds_4 (f_QR_71 rfl) sh_QG hp_QG rfl ?_
  obtain ⟨g_4, h⟩ := x_gd h
  refine x_astore_n (lv2 := [(0, .ref 0), (1, .ref (m.2.2.1 114 3))]) d_QR_holds_7 rfl (by decide) rfl ?_
  refine x_aload_n d_QR_holds_8 rfl rfl ?_
  obtain ⟨r9, e9, h⟩ := x_bd h
  refine x_dVi (M2 := M_QU_isAsked) (As := []) (st := []) d_QR_holds_9 w_1031 k_QU_isAsked (c_QU_isAsked (x_qb_ok g_4) e9) rfl (sh_QU (x_qb_ok g_4)) (hp_QU (x_qb_ok g_4)) rfl ⟨Nat.le_of_ble_eq_true rfl, Nat.le_of_ble_eq_true rfl⟩ (Nat.le_of_ble_eq_true rfl) (Nat.le_of_ble_eq_true rfl) (Nat.le_of_ble_eq_true rfl) (Nat.le_of_ble_eq_true rfl) rfl ?_
  refine x_if_ne (tgt := 25) d_QR_holds_12 (by decide) (fun c_ => ?_) (fun c_ => ?_)
  · replace h := x_ie h c_
    refine x_aload_n d_QR_holds_25 rfl rfl ?_
    refine x_gC d_QR_holds_26 (f_QR_126 rfl) (sh_QU (x_qb_ok g_4)) (hp_QU (x_qb_ok g_4)) rfl ?_
    refine x_aload_n d_QR_holds_29 rfl rfl ?_
    refine x_gC d_QR_holds_30 (f_QR_28 rfl) sh_QR hp_QR rfl ?_
    obtain ⟨r33, e33, h⟩ := x_bd h
    refine x_dVi (M2 := M_CN_isTrueFor) (As := [.ref 4]) (st := []) d_QR_holds_33 w_1036 k_CN_isTrueFor (c_CN_isTrueFor (x_CN_of (x_qb_ok g_4)) e33) rfl (sh_CN (x_CN_of (x_qb_ok g_4))) (hp_CN (x_CN_of (x_qb_ok g_4))) rfl ⟨Nat.le_of_ble_eq_true rfl, Nat.le_of_ble_eq_true rfl⟩ (Nat.le_of_ble_eq_true rfl) (Nat.le_of_ble_eq_true rfl) (Nat.le_of_ble_eq_true rfl) (Nat.le_of_ble_eq_true rfl) rfl ?_
    obtain ⟨g_36, h⟩ := x_gd h
    cases h
    exact x_ti d_QR_holds_36 rfl (x_b1_ok g_36).1 (Nat.le_of_ble_eq_true rfl) (Nat.le_of_ble_eq_true rfl)
  · replace h := x_it h c_
    cases h
    exact x_throw (i := 44) d_QR_holds_15 d_QR_holds_18 d_QR_holds_19 d_QR_holds_21 d_QR_holds_24 rfl rfl (by decide +kernel) w_803 w_19 w_804 x_atS (fun z => z.2.2.2.2.2.1.2.2.2.2) (Nat.le_of_ble_eq_true rfl) (Nat.le_of_ble_eq_true rfl) (Nat.le_of_ble_eq_true rfl) (Nat.le_of_ble_eq_true rfl) ⟨rfl, rfl, rfl⟩
