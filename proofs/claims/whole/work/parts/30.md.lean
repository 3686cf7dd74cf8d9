def M_MD_isDimension : x_M := (⟨"QuestionReaderModel", "isDimension", "(I)Z"⟩, prog_14_method_48_code, 2, some (.boolean), [])
theorem d_MD_isDimension_0 : decode M_MD_isDimension.2.1 0 = .ok (.iload_n 1, 1) := by decide +kernel
theorem d_MD_isDimension_1 : decode M_MD_isDimension.2.1 1 = .ok (.ifCond .lt 15, 3) := by decide +kernel
theorem d_MD_isDimension_4 : decode M_MD_isDimension.2.1 4 = .ok (.iload_n 1, 1) := by decide +kernel
theorem d_MD_isDimension_5 : decode M_MD_isDimension.2.1 5 = .ok (.aload_n 0, 1) := by decide +kernel
theorem d_MD_isDimension_6 : decode M_MD_isDimension.2.1 6 = .ok (.getfield 150, 3) := by decide +kernel
theorem d_MD_isDimension_9 : decode M_MD_isDimension.2.1 9 = .ok (.if_icmp .ge 7, 3) := by decide +kernel
theorem d_MD_isDimension_12 : decode M_MD_isDimension.2.1 12 = .ok (.iconst 1, 1) := by decide +kernel
theorem d_MD_isDimension_13 : decode M_MD_isDimension.2.1 13 = .ok (.goto 4, 3) := by decide +kernel
theorem d_MD_isDimension_16 : decode M_MD_isDimension.2.1 16 = .ok (.iconst 0, 1) := by decide +kernel
theorem d_MD_isDimension_17 : decode M_MD_isDimension.2.1 17 = .ok (.ireturn, 1) := by decide +kernel
theorem k_MD_isDimension : x_kV M_MD_isDimension "QuestionReaderModel" 1 := ⟨⟨by decide, Or.inl ⟨w_1462, rfl⟩⟩, w_1461, ws_73, ⟨by decide, by decide⟩, by decide +kernel⟩
def M_MD_dimension2 : x_M := (⟨"QuestionReaderModel", "dimension", "(II)I"⟩, prog_14_method_49_code, 3, some (.int), [])
theorem d_MD_dimension2_0 : decode M_MD_dimension2.2.1 0 = .ok (.aload_n 0, 1) := by decide +kernel
theorem d_MD_dimension2_1 : decode M_MD_dimension2.2.1 1 = .ok (.aload_n 0, 1) := by decide +kernel
theorem d_MD_dimension2_2 : decode M_MD_dimension2.2.1 2 = .ok (.iload_n 1, 1) := by decide +kernel
theorem d_MD_dimension2_3 : decode M_MD_dimension2.2.1 3 = .ok (.invokevirtual 305, 3) := by decide +kernel
theorem d_MD_dimension2_6 : decode M_MD_dimension2.2.1 6 = .ok (.ifCond .eq 16, 3) := by decide +kernel
theorem d_MD_dimension2_9 : decode M_MD_dimension2.2.1 9 = .ok (.iload_n 2, 1) := by decide +kernel
theorem d_MD_dimension2_10 : decode M_MD_dimension2.2.1 10 = .ok (.ifCond .eq 8, 3) := by decide +kernel
theorem d_MD_dimension2_13 : decode M_MD_dimension2.2.1 13 = .ok (.iload_n 2, 1) := by decide +kernel
theorem d_MD_dimension2_14 : decode M_MD_dimension2.2.1 14 = .ok (.iconst 1, 1) := by decide +kernel
theorem d_MD_dimension2_15 : decode M_MD_dimension2.2.1 15 = .ok (.if_icmp .ne 7, 3) := by decide +kernel
theorem d_MD_dimension2_18 : decode M_MD_dimension2.2.1 18 = .ok (.iconst 0, 1) := by decide +kernel
theorem d_MD_dimension2_19 : decode M_MD_dimension2.2.1 19 = .ok (.goto 4, 3) := by decide +kernel
theorem d_MD_dimension2_22 : decode M_MD_dimension2.2.1 22 = .ok (.iconst 1, 1) := by decide +kernel
theorem d_MD_dimension2_23 : decode M_MD_dimension2.2.1 23 = .ok (.putfield 57, 3) := by decide +kernel
theorem d_MD_dimension2_26 : decode M_MD_dimension2.2.1 26 = .ok (.aload_n 0, 1) := by decide +kernel
theorem d_MD_dimension2_27 : decode M_MD_dimension2.2.1 27 = .ok (.getfield 57, 3) := by decide +kernel
theorem d_MD_dimension2_30 : decode M_MD_dimension2.2.1 30 = .ok (.ifCond .le 7, 3) := by decide +kernel
theorem d_MD_dimension2_33 : decode M_MD_dimension2.2.1 33 = .ok (.iconst 0, 1) := by decide +kernel
theorem d_MD_dimension2_34 : decode M_MD_dimension2.2.1 34 = .ok (.goto 22, 3) := by decide +kernel
theorem d_MD_dimension2_37 : decode M_MD_dimension2.2.1 37 = .ok (.iload_n 2, 1) := by decide +kernel
theorem d_MD_dimension2_38 : decode M_MD_dimension2.2.1 38 = .ok (.ifCond .ne 12, 3) := by decide +kernel
theorem d_MD_dimension2_41 : decode M_MD_dimension2.2.1 41 = .ok (.aload_n 0, 1) := by decide +kernel
theorem d_MD_dimension2_42 : decode M_MD_dimension2.2.1 42 = .ok (.getfield 24, 3) := by decide +kernel
theorem d_MD_dimension2_45 : decode M_MD_dimension2.2.1 45 = .ok (.iload_n 1, 1) := by decide +kernel
theorem d_MD_dimension2_46 : decode M_MD_dimension2.2.1 46 = .ok (.iaload, 1) := by decide +kernel
theorem d_MD_dimension2_47 : decode M_MD_dimension2.2.1 47 = .ok (.goto 9, 3) := by decide +kernel
theorem d_MD_dimension2_50 : decode M_MD_dimension2.2.1 50 = .ok (.aload_n 0, 1) := by decide +kernel
theorem d_MD_dimension2_51 : decode M_MD_dimension2.2.1 51 = .ok (.getfield 28, 3) := by decide +kernel
theorem d_MD_dimension2_54 : decode M_MD_dimension2.2.1 54 = .ok (.iload_n 1, 1) := by decide +kernel
theorem d_MD_dimension2_55 : decode M_MD_dimension2.2.1 55 = .ok (.iaload, 1) := by decide +kernel
theorem d_MD_dimension2_56 : decode M_MD_dimension2.2.1 56 = .ok (.ireturn, 1) := by decide +kernel
theorem k_MD_dimension2 : x_kV M_MD_dimension2 "QuestionReaderModel" 2 := ⟨⟨by decide, Or.inl ⟨w_1458, rfl⟩⟩, w_1456, w_1457, ⟨by decide, by decide⟩, by decide +kernel⟩
def M_MD_item2 : x_M := (⟨"QuestionReaderModel", "item", "(II)I"⟩, prog_14_method_57_code, 3, some (.int), [])
theorem d_MD_item2_0 : decode M_MD_item2.2.1 0 = .ok (.aload_n 0, 1) := by decide +kernel
theorem d_MD_item2_1 : decode M_MD_item2.2.1 1 = .ok (.aload_n 0, 1) := by decide +kernel
theorem d_MD_item2_2 : decode M_MD_item2.2.1 2 = .ok (.getfield 280, 3) := by decide +kernel
theorem d_MD_item2_5 : decode M_MD_item2.2.1 5 = .ok (.ifCond .eq 31, 3) := by decide +kernel
theorem d_MD_item2_8 : decode M_MD_item2.2.1 8 = .ok (.iload_n 1, 1) := by decide +kernel
theorem d_MD_item2_9 : decode M_MD_item2.2.1 9 = .ok (.ifCond .lt 27, 3) := by decide +kernel
theorem d_MD_item2_12 : decode M_MD_item2.2.1 12 = .ok (.iload_n 1, 1) := by decide +kernel
theorem d_MD_item2_13 : decode M_MD_item2.2.1 13 = .ok (.aload_n 0, 1) := by decide +kernel
theorem d_MD_item2_14 : decode M_MD_item2.2.1 14 = .ok (.getfield 46, 3) := by decide +kernel
theorem d_MD_item2_17 : decode M_MD_item2.2.1 17 = .ok (.getfield 179, 3) := by decide +kernel
theorem d_MD_item2_20 : decode M_MD_item2.2.1 20 = .ok (.if_icmp .ge 16, 3) := by decide +kernel
theorem d_MD_item2_23 : decode M_MD_item2.2.1 23 = .ok (.iload_n 2, 1) := by decide +kernel
theorem d_MD_item2_24 : decode M_MD_item2.2.1 24 = .ok (.ifCond .eq 8, 3) := by decide +kernel
theorem d_MD_item2_27 : decode M_MD_item2.2.1 27 = .ok (.iload_n 2, 1) := by decide +kernel
theorem d_MD_item2_28 : decode M_MD_item2.2.1 28 = .ok (.iconst 1, 1) := by decide +kernel
theorem d_MD_item2_29 : decode M_MD_item2.2.1 29 = .ok (.if_icmp .ne 7, 3) := by decide +kernel
theorem d_MD_item2_32 : decode M_MD_item2.2.1 32 = .ok (.iconst 0, 1) := by decide +kernel
theorem d_MD_item2_33 : decode M_MD_item2.2.1 33 = .ok (.goto 4, 3) := by decide +kernel
theorem d_MD_item2_36 : decode M_MD_item2.2.1 36 = .ok (.iconst 1, 1) := by decide +kernel
theorem d_MD_item2_37 : decode M_MD_item2.2.1 37 = .ok (.putfield 57, 3) := by decide +kernel
theorem d_MD_item2_40 : decode M_MD_item2.2.1 40 = .ok (.aload_n 0, 1) := by decide +kernel
theorem d_MD_item2_41 : decode M_MD_item2.2.1 41 = .ok (.getfield 57, 3) := by decide +kernel
theorem d_MD_item2_44 : decode M_MD_item2.2.1 44 = .ok (.ifCond .le 7, 3) := by decide +kernel
theorem d_MD_item2_47 : decode M_MD_item2.2.1 47 = .ok (.iconst 0, 1) := by decide +kernel
theorem d_MD_item2_48 : decode M_MD_item2.2.1 48 = .ok (.goto 28, 3) := by decide +kernel
theorem d_MD_item2_51 : decode M_MD_item2.2.1 51 = .ok (.iload_n 2, 1) := by decide +kernel
theorem d_MD_item2_52 : decode M_MD_item2.2.1 52 = .ok (.ifCond .ne 15, 3) := by decide +kernel
theorem d_MD_item2_55 : decode M_MD_item2.2.1 55 = .ok (.aload_n 0, 1) := by decide +kernel
theorem d_MD_item2_56 : decode M_MD_item2.2.1 56 = .ok (.getfield 46, 3) := by decide +kernel
theorem d_MD_item2_59 : decode M_MD_item2.2.1 59 = .ok (.getfield 185, 3) := by decide +kernel
theorem d_MD_item2_62 : decode M_MD_item2.2.1 62 = .ok (.iload_n 1, 1) := by decide +kernel
theorem d_MD_item2_63 : decode M_MD_item2.2.1 63 = .ok (.iaload, 1) := by decide +kernel
theorem d_MD_item2_64 : decode M_MD_item2.2.1 64 = .ok (.goto 12, 3) := by decide +kernel
theorem d_MD_item2_67 : decode M_MD_item2.2.1 67 = .ok (.aload_n 0, 1) := by decide +kernel
theorem d_MD_item2_68 : decode M_MD_item2.2.1 68 = .ok (.getfield 46, 3) := by decide +kernel
theorem d_MD_item2_71 : decode M_MD_item2.2.1 71 = .ok (.getfield 188, 3) := by decide +kernel
theorem d_MD_item2_74 : decode M_MD_item2.2.1 74 = .ok (.iload_n 1, 1) := by decide +kernel
theorem d_MD_item2_75 : decode M_MD_item2.2.1 75 = .ok (.iaload, 1) := by decide +kernel
theorem d_MD_item2_76 : decode M_MD_item2.2.1 76 = .ok (.ireturn, 1) := by decide +kernel
theorem k_MD_item2 : x_kV M_MD_item2 "QuestionReaderModel" 2 := ⟨⟨by decide, Or.inl ⟨w_1494, rfl⟩⟩, w_1492, w_1493, ⟨by decide, by decide⟩, by decide +kernel⟩
def M_MD_fault : x_M := (⟨"QuestionReaderModel", "fault", "(I)I"⟩, prog_14_method_44_code, 2, some (.int), [])
theorem d_MD_fault_0 : decode M_MD_fault.2.1 0 = .ok (.aload_n 0, 1) := by decide +kernel
theorem d_MD_fault_1 : decode M_MD_fault.2.1 1 = .ok (.iload_n 1, 1) := by decide +kernel
theorem d_MD_fault_2 : decode M_MD_fault.2.1 2 = .ok (.ifCond .eq 8, 3) := by decide +kernel
theorem d_MD_fault_5 : decode M_MD_fault.2.1 5 = .ok (.iload_n 1, 1) := by decide +kernel
theorem d_MD_fault_6 : decode M_MD_fault.2.1 6 = .ok (.iconst 1, 1) := by decide +kernel
theorem d_MD_fault_7 : decode M_MD_fault.2.1 7 = .ok (.if_icmp .ne 7, 3) := by decide +kernel
theorem d_MD_fault_10 : decode M_MD_fault.2.1 10 = .ok (.iconst 0, 1) := by decide +kernel
theorem d_MD_fault_11 : decode M_MD_fault.2.1 11 = .ok (.goto 4, 3) := by decide +kernel
theorem d_MD_fault_14 : decode M_MD_fault.2.1 14 = .ok (.iconst 1, 1) := by decide +kernel
theorem d_MD_fault_15 : decode M_MD_fault.2.1 15 = .ok (.putfield 57, 3) := by decide +kernel
theorem d_MD_fault_18 : decode M_MD_fault.2.1 18 = .ok (.aload_n 0, 1) := by decide +kernel
theorem d_MD_fault_19 : decode M_MD_fault.2.1 19 = .ok (.getfield 57, 3) := by decide +kernel
theorem d_MD_fault_22 : decode M_MD_fault.2.1 22 = .ok (.ifCond .le 7, 3) := by decide +kernel
theorem d_MD_fault_25 : decode M_MD_fault.2.1 25 = .ok (.iconst 0, 1) := by decide +kernel
theorem d_MD_fault_26 : decode M_MD_fault.2.1 26 = .ok (.goto 18, 3) := by decide +kernel
theorem d_MD_fault_29 : decode M_MD_fault.2.1 29 = .ok (.iload_n 1, 1) := by decide +kernel
theorem d_MD_fault_30 : decode M_MD_fault.2.1 30 = .ok (.ifCond .ne 10, 3) := by decide +kernel
theorem d_MD_fault_33 : decode M_MD_fault.2.1 33 = .ok (.aload_n 0, 1) := by decide +kernel
theorem d_MD_fault_34 : decode M_MD_fault.2.1 34 = .ok (.getfield 67, 3) := by decide +kernel
theorem d_MD_fault_37 : decode M_MD_fault.2.1 37 = .ok (.goto 7, 3) := by decide +kernel
theorem d_MD_fault_40 : decode M_MD_fault.2.1 40 = .ok (.aload_n 0, 1) := by decide +kernel
theorem d_MD_fault_41 : decode M_MD_fault.2.1 41 = .ok (.getfield 20, 3) := by decide +kernel
theorem d_MD_fault_44 : decode M_MD_fault.2.1 44 = .ok (.ireturn, 1) := by decide +kernel
theorem k_MD_fault : x_kV M_MD_fault "QuestionReaderModel" 1 := ⟨⟨by decide, Or.inl ⟨w_1442, rfl⟩⟩, w_1440, w_1441, ⟨by decide, by decide⟩, by decide +kernel⟩
def M_MD_order : x_M := (⟨"QuestionReaderModel", "order", "(I)V"⟩, prog_14_method_45_code, 8, none, [])
theorem d_MD_order_0 : decode M_MD_order.2.1 0 = .ok (.iconst 0, 1) := by decide +kernel
theorem d_MD_order_1 : decode M_MD_order.2.1 1 = .ok (.istore_n 2, 1) := by decide +kernel
theorem d_MD_order_2 : decode M_MD_order.2.1 2 = .ok (.iload_n 2, 1) := by decide +kernel
theorem d_MD_order_3 : decode M_MD_order.2.1 3 = .ok (.aload_n 0, 1) := by decide +kernel
theorem d_MD_order_4 : decode M_MD_order.2.1 4 = .ok (.getfield 28, 3) := by decide +kernel
theorem d_MD_order_7 : decode M_MD_order.2.1 7 = .ok (.iload_n 1, 1) := by decide +kernel
theorem d_MD_order_8 : decode M_MD_order.2.1 8 = .ok (.iaload, 1) := by decide +kernel
theorem d_MD_order_9 : decode M_MD_order.2.1 9 = .ok (.if_icmp .ge 147, 3) := by decide +kernel
theorem d_MD_order_12 : decode M_MD_order.2.1 12 = .ok (.iload_n 2, 1) := by decide +kernel
theorem d_MD_order_13 : decode M_MD_order.2.1 13 = .ok (.istore_n 3, 1) := by decide +kernel
theorem d_MD_order_14 : decode M_MD_order.2.1 14 = .ok (.iload_n 2, 1) := by decide +kernel
theorem d_MD_order_15 : decode M_MD_order.2.1 15 = .ok (.iconst 1, 1) := by decide +kernel
theorem d_MD_order_16 : decode M_MD_order.2.1 16 = .ok (.iadd, 1) := by decide +kernel
theorem d_MD_order_17 : decode M_MD_order.2.1 17 = .ok (.istore 4, 2) := by decide +kernel
theorem d_MD_order_19 : decode M_MD_order.2.1 19 = .ok (.iload 4, 2) := by decide +kernel
theorem d_MD_order_21 : decode M_MD_order.2.1 21 = .ok (.aload_n 0, 1) := by decide +kernel
theorem d_MD_order_22 : decode M_MD_order.2.1 22 = .ok (.getfield 28, 3) := by decide +kernel
theorem d_MD_order_25 : decode M_MD_order.2.1 25 = .ok (.iload_n 1, 1) := by decide +kernel
theorem d_MD_order_26 : decode M_MD_order.2.1 26 = .ok (.iaload, 1) := by decide +kernel
theorem d_MD_order_27 : decode M_MD_order.2.1 27 = .ok (.if_icmp .ge 48, 3) := by decide +kernel
theorem d_MD_order_30 : decode M_MD_order.2.1 30 = .ok (.aload_n 0, 1) := by decide +kernel
theorem d_MD_order_31 : decode M_MD_order.2.1 31 = .ok (.getfield 31, 3) := by decide +kernel
theorem d_MD_order_34 : decode M_MD_order.2.1 34 = .ok (.sipush 4000, 3) := by decide +kernel
theorem d_MD_order_37 : decode M_MD_order.2.1 37 = .ok (.iload_n 1, 1) := by decide +kernel
theorem d_MD_order_38 : decode M_MD_order.2.1 38 = .ok (.imul, 1) := by decide +kernel
theorem d_MD_order_39 : decode M_MD_order.2.1 39 = .ok (.iconst 4, 1) := by decide +kernel
theorem d_MD_order_40 : decode M_MD_order.2.1 40 = .ok (.iload 4, 2) := by decide +kernel
theorem d_MD_order_42 : decode M_MD_order.2.1 42 = .ok (.imul, 1) := by decide +kernel
theorem d_MD_order_43 : decode M_MD_order.2.1 43 = .ok (.iadd, 1) := by decide +kernel
theorem d_MD_order_44 : decode M_MD_order.2.1 44 = .ok (.iaload, 1) := by decide +kernel
theorem d_MD_order_45 : decode M_MD_order.2.1 45 = .ok (.aload_n 0, 1) := by decide +kernel
theorem d_MD_order_46 : decode M_MD_order.2.1 46 = .ok (.getfield 31, 3) := by decide +kernel
theorem d_MD_order_49 : decode M_MD_order.2.1 49 = .ok (.sipush 4000, 3) := by decide +kernel
theorem d_MD_order_52 : decode M_MD_order.2.1 52 = .ok (.iload_n 1, 1) := by decide +kernel
theorem d_MD_order_53 : decode M_MD_order.2.1 53 = .ok (.imul, 1) := by decide +kernel
theorem d_MD_order_54 : decode M_MD_order.2.1 54 = .ok (.iconst 4, 1) := by decide +kernel
theorem d_MD_order_55 : decode M_MD_order.2.1 55 = .ok (.iload_n 3, 1) := by decide +kernel
theorem d_MD_order_56 : decode M_MD_order.2.1 56 = .ok (.imul, 1) := by decide +kernel
theorem d_MD_order_57 : decode M_MD_order.2.1 57 = .ok (.iadd, 1) := by decide +kernel
theorem d_MD_order_58 : decode M_MD_order.2.1 58 = .ok (.iaload, 1) := by decide +kernel
theorem d_MD_order_59 : decode M_MD_order.2.1 59 = .ok (.if_icmp .ge 8, 3) := by decide +kernel
theorem d_MD_order_62 : decode M_MD_order.2.1 62 = .ok (.iload 4, 2) := by decide +kernel
theorem d_MD_order_64 : decode M_MD_order.2.1 64 = .ok (.goto 4, 3) := by decide +kernel
theorem d_MD_order_67 : decode M_MD_order.2.1 67 = .ok (.iload_n 3, 1) := by decide +kernel
theorem d_MD_order_68 : decode M_MD_order.2.1 68 = .ok (.istore_n 3, 1) := by decide +kernel
theorem d_MD_order_69 : decode M_MD_order.2.1 69 = .ok (.iinc 4 1, 3) := by decide +kernel
theorem d_MD_order_72 : decode M_MD_order.2.1 72 = .ok (.goto (-53), 3) := by decide +kernel
theorem d_MD_order_75 : decode M_MD_order.2.1 75 = .ok (.iconst 0, 1) := by decide +kernel
theorem d_MD_order_76 : decode M_MD_order.2.1 76 = .ok (.istore 4, 2) := by decide +kernel
theorem d_MD_order_78 : decode M_MD_order.2.1 78 = .ok (.iload 4, 2) := by decide +kernel
theorem d_MD_order_80 : decode M_MD_order.2.1 80 = .ok (.iconst 4, 1) := by decide +kernel
theorem d_MD_order_81 : decode M_MD_order.2.1 81 = .ok (.if_icmp .ge 69, 3) := by decide +kernel
theorem d_MD_order_84 : decode M_MD_order.2.1 84 = .ok (.sipush 4000, 3) := by decide +kernel
theorem d_MD_order_87 : decode M_MD_order.2.1 87 = .ok (.iload_n 1, 1) := by decide +kernel
theorem d_MD_order_88 : decode M_MD_order.2.1 88 = .ok (.imul, 1) := by decide +kernel
theorem d_MD_order_89 : decode M_MD_order.2.1 89 = .ok (.iconst 4, 1) := by decide +kernel
theorem d_MD_order_90 : decode M_MD_order.2.1 90 = .ok (.iload_n 2, 1) := by decide +kernel
theorem d_MD_order_91 : decode M_MD_order.2.1 91 = .ok (.imul, 1) := by decide +kernel
theorem d_MD_order_92 : decode M_MD_order.2.1 92 = .ok (.iadd, 1) := by decide +kernel
theorem d_MD_order_93 : decode M_MD_order.2.1 93 = .ok (.iload 4, 2) := by decide +kernel
theorem d_MD_order_95 : decode M_MD_order.2.1 95 = .ok (.iadd, 1) := by decide +kernel
theorem d_MD_order_96 : decode M_MD_order.2.1 96 = .ok (.istore 5, 2) := by decide +kernel
theorem d_MD_order_98 : decode M_MD_order.2.1 98 = .ok (.sipush 4000, 3) := by decide +kernel
theorem d_MD_order_101 : decode M_MD_order.2.1 101 = .ok (.iload_n 1, 1) := by decide +kernel
theorem d_MD_order_102 : decode M_MD_order.2.1 102 = .ok (.imul, 1) := by decide +kernel
theorem d_MD_order_103 : decode M_MD_order.2.1 103 = .ok (.iconst 4, 1) := by decide +kernel
theorem d_MD_order_104 : decode M_MD_order.2.1 104 = .ok (.iload_n 3, 1) := by decide +kernel
theorem d_MD_order_105 : decode M_MD_order.2.1 105 = .ok (.imul, 1) := by decide +kernel
theorem d_MD_order_106 : decode M_MD_order.2.1 106 = .ok (.iadd, 1) := by decide +kernel
theorem d_MD_order_107 : decode M_MD_order.2.1 107 = .ok (.iload 4, 2) := by decide +kernel
theorem d_MD_order_109 : decode M_MD_order.2.1 109 = .ok (.iadd, 1) := by decide +kernel
theorem d_MD_order_110 : decode M_MD_order.2.1 110 = .ok (.istore 6, 2) := by decide +kernel
theorem d_MD_order_112 : decode M_MD_order.2.1 112 = .ok (.aload_n 0, 1) := by decide +kernel
theorem d_MD_order_113 : decode M_MD_order.2.1 113 = .ok (.getfield 31, 3) := by decide +kernel
theorem d_MD_order_116 : decode M_MD_order.2.1 116 = .ok (.iload 5, 2) := by decide +kernel
theorem d_MD_order_118 : decode M_MD_order.2.1 118 = .ok (.iaload, 1) := by decide +kernel
theorem d_MD_order_119 : decode M_MD_order.2.1 119 = .ok (.istore 7, 2) := by decide +kernel
theorem d_MD_order_121 : decode M_MD_order.2.1 121 = .ok (.aload_n 0, 1) := by decide +kernel
theorem d_MD_order_122 : decode M_MD_order.2.1 122 = .ok (.getfield 31, 3) := by decide +kernel
theorem d_MD_order_125 : decode M_MD_order.2.1 125 = .ok (.iload 5, 2) := by decide +kernel
theorem d_MD_order_127 : decode M_MD_order.2.1 127 = .ok (.aload_n 0, 1) := by decide +kernel
theorem d_MD_order_128 : decode M_MD_order.2.1 128 = .ok (.getfield 31, 3) := by decide +kernel
theorem d_MD_order_131 : decode M_MD_order.2.1 131 = .ok (.iload 6, 2) := by decide +kernel
theorem d_MD_order_133 : decode M_MD_order.2.1 133 = .ok (.iaload, 1) := by decide +kernel
theorem d_MD_order_134 : decode M_MD_order.2.1 134 = .ok (.iastore, 1) := by decide +kernel
theorem d_MD_order_135 : decode M_MD_order.2.1 135 = .ok (.aload_n 0, 1) := by decide +kernel
theorem d_MD_order_136 : decode M_MD_order.2.1 136 = .ok (.getfield 31, 3) := by decide +kernel
theorem d_MD_order_139 : decode M_MD_order.2.1 139 = .ok (.iload 6, 2) := by decide +kernel
theorem d_MD_order_141 : decode M_MD_order.2.1 141 = .ok (.iload 7, 2) := by decide +kernel
theorem d_MD_order_143 : decode M_MD_order.2.1 143 = .ok (.iastore, 1) := by decide +kernel
theorem d_MD_order_144 : decode M_MD_order.2.1 144 = .ok (.iinc 4 1, 3) := by decide +kernel
theorem d_MD_order_147 : decode M_MD_order.2.1 147 = .ok (.goto (-69), 3) := by decide +kernel
theorem d_MD_order_150 : decode M_MD_order.2.1 150 = .ok (.iinc 2 1, 3) := by decide +kernel
theorem d_MD_order_153 : decode M_MD_order.2.1 153 = .ok (.goto (-151), 3) := by decide +kernel
theorem d_MD_order_156 : decode M_MD_order.2.1 156 = .ok (.return_, 1) := by decide +kernel
theorem k_MD_order : x_kV M_MD_order "QuestionReaderModel" 1 := ⟨⟨by decide, Or.inl ⟨w_1450, rfl⟩⟩, w_1449, ws_72, ⟨by decide, by decide⟩, by decide +kernel⟩
def M_MD_open : x_M := (⟨"QuestionReaderModel", "open", "()Z"⟩, prog_14_method_46_code, 3, some (.boolean), [])
theorem d_MD_open_0 : decode M_MD_open.2.1 0 = .ok (.aload_n 0, 1) := by decide +kernel
theorem d_MD_open_1 : decode M_MD_open.2.1 1 = .ok (.iconst 0, 1) := by decide +kernel
theorem d_MD_open_2 : decode M_MD_open.2.1 2 = .ok (.putfield 57, 3) := by decide +kernel
theorem d_MD_open_5 : decode M_MD_open.2.1 5 = .ok (.aload_n 0, 1) := by decide +kernel
theorem d_MD_open_6 : decode M_MD_open.2.1 6 = .ok (.getfield 284, 3) := by decide +kernel
theorem d_MD_open_9 : decode M_MD_open.2.1 9 = .ok (.ifCond .ne 21, 3) := by decide +kernel
theorem d_MD_open_12 : decode M_MD_open.2.1 12 = .ok (.aload_n 0, 1) := by decide +kernel
theorem d_MD_open_13 : decode M_MD_open.2.1 13 = .ok (.getfield 150, 3) := by decide +kernel
theorem d_MD_open_16 : decode M_MD_open.2.1 16 = .ok (.ifCond .le 14, 3) := by decide +kernel
theorem d_MD_open_19 : decode M_MD_open.2.1 19 = .ok (.aload_n 0, 1) := by decide +kernel
theorem d_MD_open_20 : decode M_MD_open.2.1 20 = .ok (.getfield 157, 3) := by decide +kernel
theorem d_MD_open_23 : decode M_MD_open.2.1 23 = .ok (.ifCond .le 7, 3) := by decide +kernel
theorem d_MD_open_26 : decode M_MD_open.2.1 26 = .ok (.iconst 1, 1) := by decide +kernel
theorem d_MD_open_27 : decode M_MD_open.2.1 27 = .ok (.goto 4, 3) := by decide +kernel
theorem d_MD_open_30 : decode M_MD_open.2.1 30 = .ok (.iconst 0, 1) := by decide +kernel
theorem d_MD_open_31 : decode M_MD_open.2.1 31 = .ok (.istore_n 1, 1) := by decide +kernel
theorem d_MD_open_32 : decode M_MD_open.2.1 32 = .ok (.iconst 0, 1) := by decide +kernel
theorem d_MD_open_33 : decode M_MD_open.2.1 33 = .ok (.istore_n 2, 1) := by decide +kernel
theorem d_MD_open_34 : decode M_MD_open.2.1 34 = .ok (.iload_n 2, 1) := by decide +kernel
theorem d_MD_open_35 : decode M_MD_open.2.1 35 = .ok (.aload_n 0, 1) := by decide +kernel
theorem d_MD_open_36 : decode M_MD_open.2.1 36 = .ok (.getfield 150, 3) := by decide +kernel
theorem d_MD_open_39 : decode M_MD_open.2.1 39 = .ok (.if_icmp .ge 28, 3) := by decide +kernel
theorem d_MD_open_42 : decode M_MD_open.2.1 42 = .ok (.iload_n 1, 1) := by decide +kernel
theorem d_MD_open_43 : decode M_MD_open.2.1 43 = .ok (.ifCond .eq 16, 3) := by decide +kernel
theorem d_MD_open_46 : decode M_MD_open.2.1 46 = .ok (.aload_n 0, 1) := by decide +kernel
theorem d_MD_open_47 : decode M_MD_open.2.1 47 = .ok (.getfield 28, 3) := by decide +kernel
theorem d_MD_open_50 : decode M_MD_open.2.1 50 = .ok (.iload_n 2, 1) := by decide +kernel
theorem d_MD_open_51 : decode M_MD_open.2.1 51 = .ok (.iaload, 1) := by decide +kernel
theorem d_MD_open_52 : decode M_MD_open.2.1 52 = .ok (.ifCond .le 7, 3) := by decide +kernel
theorem d_MD_open_55 : decode M_MD_open.2.1 55 = .ok (.iconst 1, 1) := by decide +kernel
theorem d_MD_open_56 : decode M_MD_open.2.1 56 = .ok (.goto 4, 3) := by decide +kernel
theorem d_MD_open_59 : decode M_MD_open.2.1 59 = .ok (.iconst 0, 1) := by decide +kernel
theorem d_MD_open_60 : decode M_MD_open.2.1 60 = .ok (.istore_n 1, 1) := by decide +kernel
theorem d_MD_open_61 : decode M_MD_open.2.1 61 = .ok (.iinc 2 1, 3) := by decide +kernel
theorem d_MD_open_64 : decode M_MD_open.2.1 64 = .ok (.goto (-30), 3) := by decide +kernel
theorem d_MD_open_67 : decode M_MD_open.2.1 67 = .ok (.iconst 0, 1) := by decide +kernel
theorem d_MD_open_68 : decode M_MD_open.2.1 68 = .ok (.istore_n 2, 1) := by decide +kernel
theorem d_MD_open_69 : decode M_MD_open.2.1 69 = .ok (.iload_n 2, 1) := by decide +kernel
theorem d_MD_open_70 : decode M_MD_open.2.1 70 = .ok (.aload_n 0, 1) := by decide +kernel
theorem d_MD_open_71 : decode M_MD_open.2.1 71 = .ok (.getfield 150, 3) := by decide +kernel
theorem d_MD_open_74 : decode M_MD_open.2.1 74 = .ok (.if_icmp .ge 25, 3) := by decide +kernel
theorem d_MD_open_77 : decode M_MD_open.2.1 77 = .ok (.iload_n 1, 1) := by decide +kernel
theorem d_MD_open_78 : decode M_MD_open.2.1 78 = .ok (.ifCond .eq 21, 3) := by decide +kernel
theorem d_MD_open_81 : decode M_MD_open.2.1 81 = .ok (.aload_n 0, 1) := by decide +kernel
theorem d_MD_open_82 : decode M_MD_open.2.1 82 = .ok (.iload_n 2, 1) := by decide +kernel
theorem d_MD_open_83 : decode M_MD_open.2.1 83 = .ok (.invokevirtual 302, 3) := by decide +kernel
theorem d_MD_open_86 : decode M_MD_open.2.1 86 = .ok (.aload_n 0, 1) := by decide +kernel
theorem d_MD_open_87 : decode M_MD_open.2.1 87 = .ok (.getfield 34, 3) := by decide +kernel
theorem d_MD_open_90 : decode M_MD_open.2.1 90 = .ok (.iload_n 2, 1) := by decide +kernel
theorem d_MD_open_91 : decode M_MD_open.2.1 91 = .ok (.iconst 0, 1) := by decide +kernel
theorem d_MD_open_92 : decode M_MD_open.2.1 92 = .ok (.iastore, 1) := by decide +kernel
theorem d_MD_open_93 : decode M_MD_open.2.1 93 = .ok (.iinc 2 1, 3) := by decide +kernel
theorem d_MD_open_96 : decode M_MD_open.2.1 96 = .ok (.goto (-27), 3) := by decide +kernel
theorem d_MD_open_99 : decode M_MD_open.2.1 99 = .ok (.aload_n 0, 1) := by decide +kernel
theorem d_MD_open_100 : decode M_MD_open.2.1 100 = .ok (.aload_n 0, 1) := by decide +kernel
theorem d_MD_open_101 : decode M_MD_open.2.1 101 = .ok (.getfield 284, 3) := by decide +kernel
theorem d_MD_open_104 : decode M_MD_open.2.1 104 = .ok (.ifCond .ne 7, 3) := by decide +kernel
theorem d_MD_open_107 : decode M_MD_open.2.1 107 = .ok (.iload_n 1, 1) := by decide +kernel
theorem d_MD_open_108 : decode M_MD_open.2.1 108 = .ok (.ifCond .eq 7, 3) := by decide +kernel
theorem d_MD_open_111 : decode M_MD_open.2.1 111 = .ok (.iconst 1, 1) := by decide +kernel
theorem d_MD_open_112 : decode M_MD_open.2.1 112 = .ok (.goto 4, 3) := by decide +kernel
theorem d_MD_open_115 : decode M_MD_open.2.1 115 = .ok (.iconst 0, 1) := by decide +kernel
theorem d_MD_open_116 : decode M_MD_open.2.1 116 = .ok (.putfield 284, 3) := by decide +kernel
theorem d_MD_open_119 : decode M_MD_open.2.1 119 = .ok (.iload_n 1, 1) := by decide +kernel
theorem d_MD_open_120 : decode M_MD_open.2.1 120 = .ok (.ireturn, 1) := by decide +kernel
theorem k_MD_open : x_kV M_MD_open "QuestionReaderModel" 0 := ⟨⟨by decide, Or.inl ⟨w_1446, rfl⟩⟩, w_1444, w_1445, ⟨by decide, by decide⟩, by decide +kernel⟩
def M_MD_count : x_M := (⟨"QuestionReaderModel", "count", "(I)I"⟩, prog_14_method_47_code, 2, some (.int), [])
theorem d_MD_count_0 : decode M_MD_count.2.1 0 = .ok (.aload_n 0, 1) := by decide +kernel
theorem d_MD_count_1 : decode M_MD_count.2.1 1 = .ok (.iload_n 1, 1) := by decide +kernel
theorem d_MD_count_2 : decode M_MD_count.2.1 2 = .ok (.ifCond .lt 9, 3) := by decide +kernel
theorem d_MD_count_5 : decode M_MD_count.2.1 5 = .ok (.iload_n 1, 1) := by decide +kernel
theorem d_MD_count_6 : decode M_MD_count.2.1 6 = .ok (.bipush 6, 2) := by decide +kernel
theorem d_MD_count_8 : decode M_MD_count.2.1 8 = .ok (.if_icmp .le 7, 3) := by decide +kernel
theorem d_MD_count_11 : decode M_MD_count.2.1 11 = .ok (.iconst 1, 1) := by decide +kernel
theorem d_MD_count_12 : decode M_MD_count.2.1 12 = .ok (.goto 4, 3) := by decide +kernel
theorem d_MD_count_15 : decode M_MD_count.2.1 15 = .ok (.iconst 0, 1) := by decide +kernel
theorem d_MD_count_16 : decode M_MD_count.2.1 16 = .ok (.putfield 57, 3) := by decide +kernel
theorem d_MD_count_19 : decode M_MD_count.2.1 19 = .ok (.aload_n 0, 1) := by decide +kernel
theorem d_MD_count_20 : decode M_MD_count.2.1 20 = .ok (.getfield 57, 3) := by decide +kernel
theorem d_MD_count_23 : decode M_MD_count.2.1 23 = .ok (.ifCond .le 5, 3) := by decide +kernel
theorem d_MD_count_26 : decode M_MD_count.2.1 26 = .ok (.iconst 0, 1) := by decide +kernel
theorem d_MD_count_27 : decode M_MD_count.2.1 27 = .ok (.ireturn, 1) := by decide +kernel
theorem d_MD_count_28 : decode M_MD_count.2.1 28 = .ok (.iload_n 1, 1) := by decide +kernel
theorem d_MD_count_29 : decode M_MD_count.2.1 29 = .ok (.tableswitch 111 0 5 #[39, 44, 49, 54, 73, 92], 39) := by decide +kernel
theorem d_MD_count_68 : decode M_MD_count.2.1 68 = .ok (.aload_n 0, 1) := by decide +kernel
theorem d_MD_count_69 : decode M_MD_count.2.1 69 = .ok (.getfield 150, 3) := by decide +kernel
theorem d_MD_count_72 : decode M_MD_count.2.1 72 = .ok (.ireturn, 1) := by decide +kernel
theorem d_MD_count_73 : decode M_MD_count.2.1 73 = .ok (.aload_n 0, 1) := by decide +kernel
theorem d_MD_count_74 : decode M_MD_count.2.1 74 = .ok (.getfield 157, 3) := by decide +kernel
theorem d_MD_count_77 : decode M_MD_count.2.1 77 = .ok (.ireturn, 1) := by decide +kernel
theorem d_MD_count_78 : decode M_MD_count.2.1 78 = .ok (.aload_n 0, 1) := by decide +kernel
theorem d_MD_count_79 : decode M_MD_count.2.1 79 = .ok (.getfield 60, 3) := by decide +kernel
theorem d_MD_count_82 : decode M_MD_count.2.1 82 = .ok (.ireturn, 1) := by decide +kernel
theorem d_MD_count_83 : decode M_MD_count.2.1 83 = .ok (.aload_n 0, 1) := by decide +kernel
theorem d_MD_count_84 : decode M_MD_count.2.1 84 = .ok (.getfield 280, 3) := by decide +kernel
theorem d_MD_count_87 : decode M_MD_count.2.1 87 = .ok (.ifCond .eq 13, 3) := by decide +kernel
theorem d_MD_count_90 : decode M_MD_count.2.1 90 = .ok (.aload_n 0, 1) := by decide +kernel
theorem d_MD_count_91 : decode M_MD_count.2.1 91 = .ok (.getfield 46, 3) := by decide +kernel
theorem d_MD_count_94 : decode M_MD_count.2.1 94 = .ok (.getfield 179, 3) := by decide +kernel
theorem d_MD_count_97 : decode M_MD_count.2.1 97 = .ok (.goto 4, 3) := by decide +kernel
theorem d_MD_count_100 : decode M_MD_count.2.1 100 = .ok (.iconst 0, 1) := by decide +kernel
theorem d_MD_count_101 : decode M_MD_count.2.1 101 = .ok (.ireturn, 1) := by decide +kernel
theorem d_MD_count_102 : decode M_MD_count.2.1 102 = .ok (.aload_n 0, 1) := by decide +kernel
theorem d_MD_count_103 : decode M_MD_count.2.1 103 = .ok (.getfield 280, 3) := by decide +kernel
theorem d_MD_count_106 : decode M_MD_count.2.1 106 = .ok (.ifCond .eq 13, 3) := by decide +kernel
theorem d_MD_count_109 : decode M_MD_count.2.1 109 = .ok (.aload_n 0, 1) := by decide +kernel
theorem d_MD_count_110 : decode M_MD_count.2.1 110 = .ok (.getfield 46, 3) := by decide +kernel
theorem d_MD_count_113 : decode M_MD_count.2.1 113 = .ok (.getfield 240, 3) := by decide +kernel
theorem d_MD_count_116 : decode M_MD_count.2.1 116 = .ok (.goto 4, 3) := by decide +kernel
theorem d_MD_count_119 : decode M_MD_count.2.1 119 = .ok (.iconst 0, 1) := by decide +kernel
theorem d_MD_count_120 : decode M_MD_count.2.1 120 = .ok (.ireturn, 1) := by decide +kernel
theorem d_MD_count_121 : decode M_MD_count.2.1 121 = .ok (.aload_n 0, 1) := by decide +kernel
theorem d_MD_count_122 : decode M_MD_count.2.1 122 = .ok (.getfield 280, 3) := by decide +kernel
theorem d_MD_count_125 : decode M_MD_count.2.1 125 = .ok (.ifCond .eq 13, 3) := by decide +kernel
theorem d_MD_count_128 : decode M_MD_count.2.1 128 = .ok (.aload_n 0, 1) := by decide +kernel
theorem d_MD_count_129 : decode M_MD_count.2.1 129 = .ok (.getfield 46, 3) := by decide +kernel
theorem d_MD_count_132 : decode M_MD_count.2.1 132 = .ok (.getfield 264, 3) := by decide +kernel
theorem d_MD_count_135 : decode M_MD_count.2.1 135 = .ok (.goto 4, 3) := by decide +kernel
theorem d_MD_count_138 : decode M_MD_count.2.1 138 = .ok (.iconst 0, 1) := by decide +kernel
theorem d_MD_count_139 : decode M_MD_count.2.1 139 = .ok (.ireturn, 1) := by decide +kernel
theorem d_MD_count_140 : decode M_MD_count.2.1 140 = .ok (.aload_n 0, 1) := by decide +kernel
theorem d_MD_count_141 : decode M_MD_count.2.1 141 = .ok (.getfield 280, 3) := by decide +kernel
theorem d_MD_count_144 : decode M_MD_count.2.1 144 = .ok (.ifCond .eq 13, 3) := by decide +kernel
theorem d_MD_count_147 : decode M_MD_count.2.1 147 = .ok (.aload_n 0, 1) := by decide +kernel
theorem d_MD_count_148 : decode M_MD_count.2.1 148 = .ok (.getfield 46, 3) := by decide +kernel
theorem d_MD_count_151 : decode M_MD_count.2.1 151 = .ok (.getfield 217, 3) := by decide +kernel
theorem d_MD_count_154 : decode M_MD_count.2.1 154 = .ok (.goto 4, 3) := by decide +kernel
theorem d_MD_count_157 : decode M_MD_count.2.1 157 = .ok (.iconst 0, 1) := by decide +kernel
theorem d_MD_count_158 : decode M_MD_count.2.1 158 = .ok (.ireturn, 1) := by decide +kernel
theorem k_MD_count : x_kV M_MD_count "QuestionReaderModel" 1 := ⟨⟨by decide, Or.inl ⟨w_1454, rfl⟩⟩, w_1452, w_1453, ⟨by decide, by decide⟩, by decide +kernel⟩
def M_MD_isValue : x_M := (⟨"QuestionReaderModel", "isValue", "(III)Z"⟩, prog_14_method_50_code, 4, some (.boolean), [])
theorem d_MD_isValue_0 : decode M_MD_isValue.2.1 0 = .ok (.aload_n 0, 1) := by decide +kernel
theorem d_MD_isValue_1 : decode M_MD_isValue.2.1 1 = .ok (.iload_n 1, 1) := by decide +kernel
theorem d_MD_isValue_2 : decode M_MD_isValue.2.1 2 = .ok (.invokevirtual 305, 3) := by decide +kernel
theorem d_MD_isValue_5 : decode M_MD_isValue.2.1 5 = .ok (.ifCond .eq 35, 3) := by decide +kernel
theorem d_MD_isValue_8 : decode M_MD_isValue.2.1 8 = .ok (.iload_n 2, 1) := by decide +kernel
theorem d_MD_isValue_9 : decode M_MD_isValue.2.1 9 = .ok (.ifCond .lt 31, 3) := by decide +kernel
theorem d_MD_isValue_12 : decode M_MD_isValue.2.1 12 = .ok (.iload_n 2, 1) := by decide +kernel
theorem d_MD_isValue_13 : decode M_MD_isValue.2.1 13 = .ok (.aload_n 0, 1) := by decide +kernel
theorem d_MD_isValue_14 : decode M_MD_isValue.2.1 14 = .ok (.getfield 24, 3) := by decide +kernel
theorem d_MD_isValue_17 : decode M_MD_isValue.2.1 17 = .ok (.iload_n 1, 1) := by decide +kernel
theorem d_MD_isValue_18 : decode M_MD_isValue.2.1 18 = .ok (.iaload, 1) := by decide +kernel
theorem d_MD_isValue_19 : decode M_MD_isValue.2.1 19 = .ok (.if_icmp .ge 21, 3) := by decide +kernel
theorem d_MD_isValue_22 : decode M_MD_isValue.2.1 22 = .ok (.iload_n 3, 1) := by decide +kernel
theorem d_MD_isValue_23 : decode M_MD_isValue.2.1 23 = .ok (.ifCond .lt 17, 3) := by decide +kernel
theorem d_MD_isValue_26 : decode M_MD_isValue.2.1 26 = .ok (.iload_n 3, 1) := by decide +kernel
theorem d_MD_isValue_27 : decode M_MD_isValue.2.1 27 = .ok (.aload_n 0, 1) := by decide +kernel
theorem d_MD_isValue_28 : decode M_MD_isValue.2.1 28 = .ok (.getfield 28, 3) := by decide +kernel
theorem d_MD_isValue_31 : decode M_MD_isValue.2.1 31 = .ok (.iload_n 1, 1) := by decide +kernel
theorem d_MD_isValue_32 : decode M_MD_isValue.2.1 32 = .ok (.iaload, 1) := by decide +kernel
theorem d_MD_isValue_33 : decode M_MD_isValue.2.1 33 = .ok (.if_icmp .ge 7, 3) := by decide +kernel
theorem d_MD_isValue_36 : decode M_MD_isValue.2.1 36 = .ok (.iconst 1, 1) := by decide +kernel
theorem d_MD_isValue_37 : decode M_MD_isValue.2.1 37 = .ok (.goto 4, 3) := by decide +kernel
theorem d_MD_isValue_40 : decode M_MD_isValue.2.1 40 = .ok (.iconst 0, 1) := by decide +kernel
theorem d_MD_isValue_41 : decode M_MD_isValue.2.1 41 = .ok (.ireturn, 1) := by decide +kernel
theorem k_MD_isValue : x_kV M_MD_isValue "QuestionReaderModel" 3 := ⟨⟨by decide, Or.inl ⟨w_1470, rfl⟩⟩, w_1469, ws_74, ⟨by decide, by decide⟩, by decide +kernel⟩
def M_MD_valueOf : x_M := (⟨"QuestionReaderModel", "valueOf", "(III)I"⟩, prog_14_method_51_code, 4, some (.int), [])
theorem d_MD_valueOf_0 : decode M_MD_valueOf.2.1 0 = .ok (.aload_n 0, 1) := by decide +kernel
theorem d_MD_valueOf_1 : decode M_MD_valueOf.2.1 1 = .ok (.getfield 31, 3) := by decide +kernel
theorem d_MD_valueOf_4 : decode M_MD_valueOf.2.1 4 = .ok (.sipush 4000, 3) := by decide +kernel
theorem d_MD_valueOf_7 : decode M_MD_valueOf.2.1 7 = .ok (.iload_n 1, 1) := by decide +kernel
theorem d_MD_valueOf_8 : decode M_MD_valueOf.2.1 8 = .ok (.imul, 1) := by decide +kernel
theorem d_MD_valueOf_9 : decode M_MD_valueOf.2.1 9 = .ok (.iconst 4, 1) := by decide +kernel
theorem d_MD_valueOf_10 : decode M_MD_valueOf.2.1 10 = .ok (.iload_n 3, 1) := by decide +kernel
theorem d_MD_valueOf_11 : decode M_MD_valueOf.2.1 11 = .ok (.imul, 1) := by decide +kernel
theorem d_MD_valueOf_12 : decode M_MD_valueOf.2.1 12 = .ok (.iadd, 1) := by decide +kernel
theorem d_MD_valueOf_13 : decode M_MD_valueOf.2.1 13 = .ok (.iload_n 2, 1) := by decide +kernel
theorem d_MD_valueOf_14 : decode M_MD_valueOf.2.1 14 = .ok (.iadd, 1) := by decide +kernel
theorem d_MD_valueOf_15 : decode M_MD_valueOf.2.1 15 = .ok (.iaload, 1) := by decide +kernel
theorem d_MD_valueOf_16 : decode M_MD_valueOf.2.1 16 = .ok (.ireturn, 1) := by decide +kernel
theorem k_MD_valueOf : x_kV M_MD_valueOf "QuestionReaderModel" 3 := ⟨⟨by decide, Or.inl ⟨w_1474, rfl⟩⟩, w_1473, ws_75, ⟨by decide, by decide⟩, by decide +kernel⟩
def M_MD_value : x_M := (⟨"QuestionReaderModel", "value", "(III)I"⟩, prog_14_method_52_code, 4, some (.int), [])
theorem d_MD_value_0 : decode M_MD_value.2.1 0 = .ok (.aload_n 0, 1) := by decide +kernel
theorem d_MD_value_1 : decode M_MD_value.2.1 1 = .ok (.aload_n 0, 1) := by decide +kernel
theorem d_MD_value_2 : decode M_MD_value.2.1 2 = .ok (.iload_n 1, 1) := by decide +kernel
theorem d_MD_value_3 : decode M_MD_value.2.1 3 = .ok (.iload_n 2, 1) := by decide +kernel
theorem d_MD_value_4 : decode M_MD_value.2.1 4 = .ok (.iload_n 3, 1) := by decide +kernel
theorem d_MD_value_5 : decode M_MD_value.2.1 5 = .ok (.invokevirtual 308, 3) := by decide +kernel
theorem d_MD_value_8 : decode M_MD_value.2.1 8 = .ok (.ifCond .eq 7, 3) := by decide +kernel
theorem d_MD_value_11 : decode M_MD_value.2.1 11 = .ok (.iconst 0, 1) := by decide +kernel
theorem d_MD_value_12 : decode M_MD_value.2.1 12 = .ok (.goto 4, 3) := by decide +kernel
theorem d_MD_value_15 : decode M_MD_value.2.1 15 = .ok (.iconst 1, 1) := by decide +kernel
theorem d_MD_value_16 : decode M_MD_value.2.1 16 = .ok (.putfield 57, 3) := by decide +kernel
theorem d_MD_value_19 : decode M_MD_value.2.1 19 = .ok (.aload_n 0, 1) := by decide +kernel
theorem d_MD_value_20 : decode M_MD_value.2.1 20 = .ok (.getfield 57, 3) := by decide +kernel
theorem d_MD_value_23 : decode M_MD_value.2.1 23 = .ok (.ifCond .le 7, 3) := by decide +kernel
theorem d_MD_value_26 : decode M_MD_value.2.1 26 = .ok (.iconst 0, 1) := by decide +kernel
theorem d_MD_value_27 : decode M_MD_value.2.1 27 = .ok (.goto 10, 3) := by decide +kernel
theorem d_MD_value_30 : decode M_MD_value.2.1 30 = .ok (.aload_n 0, 1) := by decide +kernel
theorem d_MD_value_31 : decode M_MD_value.2.1 31 = .ok (.iload_n 1, 1) := by decide +kernel
theorem d_MD_value_32 : decode M_MD_value.2.1 32 = .ok (.iload_n 2, 1) := by decide +kernel
theorem d_MD_value_33 : decode M_MD_value.2.1 33 = .ok (.iload_n 3, 1) := by decide +kernel
theorem d_MD_value_34 : decode M_MD_value.2.1 34 = .ok (.invokevirtual 312, 3) := by decide +kernel
theorem d_MD_value_37 : decode M_MD_value.2.1 37 = .ok (.ireturn, 1) := by decide +kernel
theorem k_MD_value : x_kV M_MD_value "QuestionReaderModel" 3 := ⟨⟨by decide, Or.inl ⟨w_1466, rfl⟩⟩, w_1464, w_1465, ⟨by decide, by decide⟩, by decide +kernel⟩
def M_MD_rank : x_M := (⟨"QuestionReaderModel", "rank", "(III)I"⟩, prog_14_method_53_code, 9, some (.int), [])
theorem d_MD_rank_0 : decode M_MD_rank.2.1 0 = .ok (.aload_n 0, 1) := by decide +kernel
theorem d_MD_rank_1 : decode M_MD_rank.2.1 1 = .ok (.iload_n 1, 1) := by decide +kernel
theorem d_MD_rank_2 : decode M_MD_rank.2.1 2 = .ok (.invokevirtual 305, 3) := by decide +kernel
theorem d_MD_rank_5 : decode M_MD_rank.2.1 5 = .ok (.ifCond .eq 36, 3) := by decide +kernel
theorem d_MD_rank_8 : decode M_MD_rank.2.1 8 = .ok (.iload_n 2, 1) := by decide +kernel
theorem d_MD_rank_9 : decode M_MD_rank.2.1 9 = .ok (.ifCond .lt 32, 3) := by decide +kernel
theorem d_MD_rank_12 : decode M_MD_rank.2.1 12 = .ok (.iload_n 2, 1) := by decide +kernel
theorem d_MD_rank_13 : decode M_MD_rank.2.1 13 = .ok (.aload_n 0, 1) := by decide +kernel
theorem d_MD_rank_14 : decode M_MD_rank.2.1 14 = .ok (.getfield 24, 3) := by decide +kernel
theorem d_MD_rank_17 : decode M_MD_rank.2.1 17 = .ok (.iload_n 1, 1) := by decide +kernel
theorem d_MD_rank_18 : decode M_MD_rank.2.1 18 = .ok (.iaload, 1) := by decide +kernel
theorem d_MD_rank_19 : decode M_MD_rank.2.1 19 = .ok (.if_icmp .ge 22, 3) := by decide +kernel
theorem d_MD_rank_22 : decode M_MD_rank.2.1 22 = .ok (.iload_n 3, 1) := by decide +kernel
theorem d_MD_rank_23 : decode M_MD_rank.2.1 23 = .ok (.iconst (-1), 1) := by decide +kernel
theorem d_MD_rank_24 : decode M_MD_rank.2.1 24 = .ok (.if_icmp .eq 13, 3) := by decide +kernel
theorem d_MD_rank_27 : decode M_MD_rank.2.1 27 = .ok (.aload_n 0, 1) := by decide +kernel
theorem d_MD_rank_28 : decode M_MD_rank.2.1 28 = .ok (.iload_n 1, 1) := by decide +kernel
theorem d_MD_rank_29 : decode M_MD_rank.2.1 29 = .ok (.iload_n 2, 1) := by decide +kernel
theorem d_MD_rank_30 : decode M_MD_rank.2.1 30 = .ok (.iload_n 3, 1) := by decide +kernel
theorem d_MD_rank_31 : decode M_MD_rank.2.1 31 = .ok (.invokevirtual 308, 3) := by decide +kernel
theorem d_MD_rank_34 : decode M_MD_rank.2.1 34 = .ok (.ifCond .eq 7, 3) := by decide +kernel
theorem d_MD_rank_37 : decode M_MD_rank.2.1 37 = .ok (.iconst 1, 1) := by decide +kernel
theorem d_MD_rank_38 : decode M_MD_rank.2.1 38 = .ok (.goto 4, 3) := by decide +kernel
theorem d_MD_rank_41 : decode M_MD_rank.2.1 41 = .ok (.iconst 0, 1) := by decide +kernel
theorem d_MD_rank_42 : decode M_MD_rank.2.1 42 = .ok (.istore 4, 2) := by decide +kernel
theorem d_MD_rank_44 : decode M_MD_rank.2.1 44 = .ok (.aload_n 0, 1) := by decide +kernel
theorem d_MD_rank_45 : decode M_MD_rank.2.1 45 = .ok (.iload 4, 2) := by decide +kernel
theorem d_MD_rank_47 : decode M_MD_rank.2.1 47 = .ok (.ifCond .ne 7, 3) := by decide +kernel
theorem d_MD_rank_50 : decode M_MD_rank.2.1 50 = .ok (.iconst 1, 1) := by decide +kernel
theorem d_MD_rank_51 : decode M_MD_rank.2.1 51 = .ok (.goto 15, 3) := by decide +kernel
theorem d_MD_rank_54 : decode M_MD_rank.2.1 54 = .ok (.aload_n 0, 1) := by decide +kernel
theorem d_MD_rank_55 : decode M_MD_rank.2.1 55 = .ok (.getfield 284, 3) := by decide +kernel
theorem d_MD_rank_58 : decode M_MD_rank.2.1 58 = .ok (.ifCond .ne 7, 3) := by decide +kernel
theorem d_MD_rank_61 : decode M_MD_rank.2.1 61 = .ok (.iconst 2, 1) := by decide +kernel
theorem d_MD_rank_62 : decode M_MD_rank.2.1 62 = .ok (.goto 4, 3) := by decide +kernel
theorem d_MD_rank_65 : decode M_MD_rank.2.1 65 = .ok (.iconst 0, 1) := by decide +kernel
theorem d_MD_rank_66 : decode M_MD_rank.2.1 66 = .ok (.putfield 57, 3) := by decide +kernel
theorem d_MD_rank_69 : decode M_MD_rank.2.1 69 = .ok (.aload_n 0, 1) := by decide +kernel
theorem d_MD_rank_70 : decode M_MD_rank.2.1 70 = .ok (.getfield 57, 3) := by decide +kernel
theorem d_MD_rank_73 : decode M_MD_rank.2.1 73 = .ok (.ifCond .le 5, 3) := by decide +kernel
theorem d_MD_rank_76 : decode M_MD_rank.2.1 76 = .ok (.iconst 0, 1) := by decide +kernel
theorem d_MD_rank_77 : decode M_MD_rank.2.1 77 = .ok (.ireturn, 1) := by decide +kernel
theorem d_MD_rank_78 : decode M_MD_rank.2.1 78 = .ok (.iconst 0, 1) := by decide +kernel
theorem d_MD_rank_79 : decode M_MD_rank.2.1 79 = .ok (.istore 5, 2) := by decide +kernel
theorem d_MD_rank_81 : decode M_MD_rank.2.1 81 = .ok (.iconst 0, 1) := by decide +kernel
theorem d_MD_rank_82 : decode M_MD_rank.2.1 82 = .ok (.istore 6, 2) := by decide +kernel
theorem d_MD_rank_84 : decode M_MD_rank.2.1 84 = .ok (.iload 6, 2) := by decide +kernel
theorem d_MD_rank_86 : decode M_MD_rank.2.1 86 = .ok (.aload_n 0, 1) := by decide +kernel
theorem d_MD_rank_87 : decode M_MD_rank.2.1 87 = .ok (.getfield 28, 3) := by decide +kernel
theorem d_MD_rank_90 : decode M_MD_rank.2.1 90 = .ok (.iload_n 1, 1) := by decide +kernel
theorem d_MD_rank_91 : decode M_MD_rank.2.1 91 = .ok (.iaload, 1) := by decide +kernel
theorem d_MD_rank_92 : decode M_MD_rank.2.1 92 = .ok (.if_icmp .ge 96, 3) := by decide +kernel
theorem d_MD_rank_95 : decode M_MD_rank.2.1 95 = .ok (.iconst 1, 1) := by decide +kernel
theorem d_MD_rank_96 : decode M_MD_rank.2.1 96 = .ok (.istore 7, 2) := by decide +kernel
theorem d_MD_rank_98 : decode M_MD_rank.2.1 98 = .ok (.iconst 0, 1) := by decide +kernel
theorem d_MD_rank_99 : decode M_MD_rank.2.1 99 = .ok (.istore 8, 2) := by decide +kernel
theorem d_MD_rank_101 : decode M_MD_rank.2.1 101 = .ok (.iload 8, 2) := by decide +kernel
theorem d_MD_rank_103 : decode M_MD_rank.2.1 103 = .ok (.iload 6, 2) := by decide +kernel
theorem d_MD_rank_105 : decode M_MD_rank.2.1 105 = .ok (.if_icmp .ge 40, 3) := by decide +kernel
theorem d_MD_rank_108 : decode M_MD_rank.2.1 108 = .ok (.iload 7, 2) := by decide +kernel
theorem d_MD_rank_110 : decode M_MD_rank.2.1 110 = .ok (.ifCond .eq 26, 3) := by decide +kernel
theorem d_MD_rank_113 : decode M_MD_rank.2.1 113 = .ok (.aload_n 0, 1) := by decide +kernel
theorem d_MD_rank_114 : decode M_MD_rank.2.1 114 = .ok (.iload_n 1, 1) := by decide +kernel
theorem d_MD_rank_115 : decode M_MD_rank.2.1 115 = .ok (.iload_n 2, 1) := by decide +kernel
theorem d_MD_rank_116 : decode M_MD_rank.2.1 116 = .ok (.iload 8, 2) := by decide +kernel
theorem d_MD_rank_118 : decode M_MD_rank.2.1 118 = .ok (.invokevirtual 312, 3) := by decide +kernel
theorem d_MD_rank_121 : decode M_MD_rank.2.1 121 = .ok (.aload_n 0, 1) := by decide +kernel
theorem d_MD_rank_122 : decode M_MD_rank.2.1 122 = .ok (.iload_n 1, 1) := by decide +kernel
theorem d_MD_rank_123 : decode M_MD_rank.2.1 123 = .ok (.iload_n 2, 1) := by decide +kernel
theorem d_MD_rank_124 : decode M_MD_rank.2.1 124 = .ok (.iload 6, 2) := by decide +kernel
theorem d_MD_rank_126 : decode M_MD_rank.2.1 126 = .ok (.invokevirtual 312, 3) := by decide +kernel
theorem d_MD_rank_129 : decode M_MD_rank.2.1 129 = .ok (.if_icmp .eq 7, 3) := by decide +kernel
theorem d_MD_rank_132 : decode M_MD_rank.2.1 132 = .ok (.iconst 1, 1) := by decide +kernel
theorem d_MD_rank_133 : decode M_MD_rank.2.1 133 = .ok (.goto 4, 3) := by decide +kernel
theorem d_MD_rank_136 : decode M_MD_rank.2.1 136 = .ok (.iconst 0, 1) := by decide +kernel
theorem d_MD_rank_137 : decode M_MD_rank.2.1 137 = .ok (.istore 7, 2) := by decide +kernel
theorem d_MD_rank_139 : decode M_MD_rank.2.1 139 = .ok (.iinc 8 1, 3) := by decide +kernel
theorem d_MD_rank_142 : decode M_MD_rank.2.1 142 = .ok (.goto (-41), 3) := by decide +kernel
theorem d_MD_rank_145 : decode M_MD_rank.2.1 145 = .ok (.iload 5, 2) := by decide +kernel
theorem d_MD_rank_147 : decode M_MD_rank.2.1 147 = .ok (.iload 7, 2) := by decide +kernel
theorem d_MD_rank_149 : decode M_MD_rank.2.1 149 = .ok (.ifCond .eq 29, 3) := by decide +kernel
theorem d_MD_rank_152 : decode M_MD_rank.2.1 152 = .ok (.iload_n 3, 1) := by decide +kernel
theorem d_MD_rank_153 : decode M_MD_rank.2.1 153 = .ok (.ifCond .lt 21, 3) := by decide +kernel
theorem d_MD_rank_156 : decode M_MD_rank.2.1 156 = .ok (.aload_n 0, 1) := by decide +kernel
theorem d_MD_rank_157 : decode M_MD_rank.2.1 157 = .ok (.iload_n 1, 1) := by decide +kernel
theorem d_MD_rank_158 : decode M_MD_rank.2.1 158 = .ok (.iload_n 2, 1) := by decide +kernel
theorem d_MD_rank_159 : decode M_MD_rank.2.1 159 = .ok (.iload 6, 2) := by decide +kernel
theorem d_MD_rank_161 : decode M_MD_rank.2.1 161 = .ok (.invokevirtual 312, 3) := by decide +kernel
theorem d_MD_rank_164 : decode M_MD_rank.2.1 164 = .ok (.aload_n 0, 1) := by decide +kernel
theorem d_MD_rank_165 : decode M_MD_rank.2.1 165 = .ok (.iload_n 1, 1) := by decide +kernel
theorem d_MD_rank_166 : decode M_MD_rank.2.1 166 = .ok (.iload_n 2, 1) := by decide +kernel
theorem d_MD_rank_167 : decode M_MD_rank.2.1 167 = .ok (.iload_n 3, 1) := by decide +kernel
theorem d_MD_rank_168 : decode M_MD_rank.2.1 168 = .ok (.invokevirtual 312, 3) := by decide +kernel
theorem d_MD_rank_171 : decode M_MD_rank.2.1 171 = .ok (.if_icmp .ge 7, 3) := by decide +kernel
theorem d_MD_rank_174 : decode M_MD_rank.2.1 174 = .ok (.iconst 1, 1) := by decide +kernel
theorem d_MD_rank_175 : decode M_MD_rank.2.1 175 = .ok (.goto 4, 3) := by decide +kernel
theorem d_MD_rank_178 : decode M_MD_rank.2.1 178 = .ok (.iconst 0, 1) := by decide +kernel
theorem d_MD_rank_179 : decode M_MD_rank.2.1 179 = .ok (.iadd, 1) := by decide +kernel
theorem d_MD_rank_180 : decode M_MD_rank.2.1 180 = .ok (.istore 5, 2) := by decide +kernel
theorem d_MD_rank_182 : decode M_MD_rank.2.1 182 = .ok (.iinc 6 1, 3) := by decide +kernel
theorem d_MD_rank_185 : decode M_MD_rank.2.1 185 = .ok (.goto (-101), 3) := by decide +kernel
theorem d_MD_rank_188 : decode M_MD_rank.2.1 188 = .ok (.iload 5, 2) := by decide +kernel
theorem d_MD_rank_190 : decode M_MD_rank.2.1 190 = .ok (.ireturn, 1) := by decide +kernel
theorem k_MD_rank : x_kV M_MD_rank "QuestionReaderModel" 3 := ⟨⟨by decide, Or.inl ⟨w_1478, rfl⟩⟩, w_1476, w_1477, ⟨by decide, by decide⟩, by decide +kernel⟩
def M_MD_find : x_M := (⟨"QuestionReaderModel", "find", "(II)I"⟩, prog_14_method_54_code, 5, some (.int), [])
theorem d_MD_find_0 : decode M_MD_find.2.1 0 = .ok (.aload_n 0, 1) := by decide +kernel
theorem d_MD_find_1 : decode M_MD_find.2.1 1 = .ok (.iload_n 1, 1) := by decide +kernel
theorem d_MD_find_2 : decode M_MD_find.2.1 2 = .ok (.invokevirtual 305, 3) := by decide +kernel
theorem d_MD_find_5 : decode M_MD_find.2.1 5 = .ok (.istore_n 3, 1) := by decide +kernel
theorem d_MD_find_6 : decode M_MD_find.2.1 6 = .ok (.aload_n 0, 1) := by decide +kernel
theorem d_MD_find_7 : decode M_MD_find.2.1 7 = .ok (.iload_n 3, 1) := by decide +kernel
theorem d_MD_find_8 : decode M_MD_find.2.1 8 = .ok (.ifCond .ne 7, 3) := by decide +kernel
theorem d_MD_find_11 : decode M_MD_find.2.1 11 = .ok (.iconst 1, 1) := by decide +kernel
theorem d_MD_find_12 : decode M_MD_find.2.1 12 = .ok (.goto 15, 3) := by decide +kernel
theorem d_MD_find_15 : decode M_MD_find.2.1 15 = .ok (.aload_n 0, 1) := by decide +kernel
theorem d_MD_find_16 : decode M_MD_find.2.1 16 = .ok (.getfield 284, 3) := by decide +kernel
theorem d_MD_find_19 : decode M_MD_find.2.1 19 = .ok (.ifCond .ne 7, 3) := by decide +kernel
theorem d_MD_find_22 : decode M_MD_find.2.1 22 = .ok (.iconst 2, 1) := by decide +kernel
theorem d_MD_find_23 : decode M_MD_find.2.1 23 = .ok (.goto 4, 3) := by decide +kernel
theorem d_MD_find_26 : decode M_MD_find.2.1 26 = .ok (.iconst 0, 1) := by decide +kernel
theorem d_MD_find_27 : decode M_MD_find.2.1 27 = .ok (.putfield 57, 3) := by decide +kernel
theorem d_MD_find_30 : decode M_MD_find.2.1 30 = .ok (.aload_n 0, 1) := by decide +kernel
theorem d_MD_find_31 : decode M_MD_find.2.1 31 = .ok (.getfield 57, 3) := by decide +kernel
theorem d_MD_find_34 : decode M_MD_find.2.1 34 = .ok (.ifCond .le 5, 3) := by decide +kernel
theorem d_MD_find_37 : decode M_MD_find.2.1 37 = .ok (.iconst 0, 1) := by decide +kernel
theorem d_MD_find_38 : decode M_MD_find.2.1 38 = .ok (.ireturn, 1) := by decide +kernel
theorem d_MD_find_39 : decode M_MD_find.2.1 39 = .ok (.iconst 0, 1) := by decide +kernel
theorem d_MD_find_40 : decode M_MD_find.2.1 40 = .ok (.istore 4, 2) := by decide +kernel
theorem d_MD_find_42 : decode M_MD_find.2.1 42 = .ok (.iload 4, 2) := by decide +kernel
theorem d_MD_find_44 : decode M_MD_find.2.1 44 = .ok (.aload_n 0, 1) := by decide +kernel
theorem d_MD_find_45 : decode M_MD_find.2.1 45 = .ok (.getfield 28, 3) := by decide +kernel
theorem d_MD_find_48 : decode M_MD_find.2.1 48 = .ok (.iload_n 1, 1) := by decide +kernel
theorem d_MD_find_49 : decode M_MD_find.2.1 49 = .ok (.iaload, 1) := by decide +kernel
theorem d_MD_find_50 : decode M_MD_find.2.1 50 = .ok (.if_icmp .ge 24, 3) := by decide +kernel
theorem d_MD_find_53 : decode M_MD_find.2.1 53 = .ok (.aload_n 0, 1) := by decide +kernel
theorem d_MD_find_54 : decode M_MD_find.2.1 54 = .ok (.iload_n 1, 1) := by decide +kernel
theorem d_MD_find_55 : decode M_MD_find.2.1 55 = .ok (.iconst 0, 1) := by decide +kernel
theorem d_MD_find_56 : decode M_MD_find.2.1 56 = .ok (.iload 4, 2) := by decide +kernel
theorem d_MD_find_58 : decode M_MD_find.2.1 58 = .ok (.invokevirtual 312, 3) := by decide +kernel
theorem d_MD_find_61 : decode M_MD_find.2.1 61 = .ok (.iload_n 2, 1) := by decide +kernel
theorem d_MD_find_62 : decode M_MD_find.2.1 62 = .ok (.if_icmp .ne 6, 3) := by decide +kernel
theorem d_MD_find_65 : decode M_MD_find.2.1 65 = .ok (.iload 4, 2) := by decide +kernel
theorem d_MD_find_67 : decode M_MD_find.2.1 67 = .ok (.ireturn, 1) := by decide +kernel
theorem d_MD_find_68 : decode M_MD_find.2.1 68 = .ok (.iinc 4 1, 3) := by decide +kernel
theorem d_MD_find_71 : decode M_MD_find.2.1 71 = .ok (.goto (-29), 3) := by decide +kernel
theorem d_MD_find_74 : decode M_MD_find.2.1 74 = .ok (.iconst (-1), 1) := by decide +kernel
theorem d_MD_find_75 : decode M_MD_find.2.1 75 = .ok (.ireturn, 1) := by decide +kernel
theorem k_MD_find : x_kV M_MD_find "QuestionReaderModel" 2 := ⟨⟨by decide, Or.inl ⟨w_1482, rfl⟩⟩, w_1480, w_1481, ⟨by decide, by decide⟩, by decide +kernel⟩
def M_MD_isNamed : x_M := (⟨"QuestionReaderModel", "isNamed", "(I)Z"⟩, prog_14_method_55_code, 2, some (.boolean), [])
theorem d_MD_isNamed_0 : decode M_MD_isNamed.2.1 0 = .ok (.iload_n 1, 1) := by decide +kernel
theorem d_MD_isNamed_1 : decode M_MD_isNamed.2.1 1 = .ok (.bipush 40, 2) := by decide +kernel
theorem d_MD_isNamed_3 : decode M_MD_isNamed.2.1 3 = .ok (.if_icmp .lt 20, 3) := by decide +kernel
theorem d_MD_isNamed_6 : decode M_MD_isNamed.2.1 6 = .ok (.iload_n 1, 1) := by decide +kernel
theorem d_MD_isNamed_7 : decode M_MD_isNamed.2.1 7 = .ok (.bipush 40, 2) := by decide +kernel
theorem d_MD_isNamed_9 : decode M_MD_isNamed.2.1 9 = .ok (.aload_n 0, 1) := by decide +kernel
theorem d_MD_isNamed_10 : decode M_MD_isNamed.2.1 10 = .ok (.getfield 157, 3) := by decide +kernel
theorem d_MD_isNamed_13 : decode M_MD_isNamed.2.1 13 = .ok (.iadd, 1) := by decide +kernel
theorem d_MD_isNamed_14 : decode M_MD_isNamed.2.1 14 = .ok (.if_icmp .ge 7, 3) := by decide +kernel
theorem d_MD_isNamed_17 : decode M_MD_isNamed.2.1 17 = .ok (.iconst 1, 1) := by decide +kernel
theorem d_MD_isNamed_18 : decode M_MD_isNamed.2.1 18 = .ok (.goto 4, 3) := by decide +kernel
theorem d_MD_isNamed_21 : decode M_MD_isNamed.2.1 21 = .ok (.iconst 0, 1) := by decide +kernel
theorem d_MD_isNamed_22 : decode M_MD_isNamed.2.1 22 = .ok (.ireturn, 1) := by decide +kernel
theorem d_MD_isNamed_23 : decode M_MD_isNamed.2.1 23 = .ok (.iload_n 1, 1) := by decide +kernel
theorem d_MD_isNamed_24 : decode M_MD_isNamed.2.1 24 = .ok (.bipush 8, 2) := by decide +kernel
theorem d_MD_isNamed_26 : decode M_MD_isNamed.2.1 26 = .ok (.if_icmp .lt 40, 3) := by decide +kernel
theorem d_MD_isNamed_29 : decode M_MD_isNamed.2.1 29 = .ok (.iload_n 1, 1) := by decide +kernel
theorem d_MD_isNamed_30 : decode M_MD_isNamed.2.1 30 = .ok (.bipush 8, 2) := by decide +kernel
theorem d_MD_isNamed_32 : decode M_MD_isNamed.2.1 32 = .ok (.iconst 4, 1) := by decide +kernel
theorem d_MD_isNamed_33 : decode M_MD_isNamed.2.1 33 = .ok (.aload_n 0, 1) := by decide +kernel
theorem d_MD_isNamed_34 : decode M_MD_isNamed.2.1 34 = .ok (.getfield 150, 3) := by decide +kernel
theorem d_MD_isNamed_37 : decode M_MD_isNamed.2.1 37 = .ok (.imul, 1) := by decide +kernel
theorem d_MD_isNamed_38 : decode M_MD_isNamed.2.1 38 = .ok (.iadd, 1) := by decide +kernel
theorem d_MD_isNamed_39 : decode M_MD_isNamed.2.1 39 = .ok (.if_icmp .ge 23, 3) := by decide +kernel
theorem d_MD_isNamed_42 : decode M_MD_isNamed.2.1 42 = .ok (.iload_n 1, 1) := by decide +kernel
theorem d_MD_isNamed_43 : decode M_MD_isNamed.2.1 43 = .ok (.iconst 3, 1) := by decide +kernel
theorem d_MD_isNamed_44 : decode M_MD_isNamed.2.1 44 = .ok (.iand, 1) := by decide +kernel
theorem d_MD_isNamed_45 : decode M_MD_isNamed.2.1 45 = .ok (.aload_n 0, 1) := by decide +kernel
theorem d_MD_isNamed_46 : decode M_MD_isNamed.2.1 46 = .ok (.getfield 24, 3) := by decide +kernel
theorem d_MD_isNamed_49 : decode M_MD_isNamed.2.1 49 = .ok (.iload_n 1, 1) := by decide +kernel
theorem d_MD_isNamed_50 : decode M_MD_isNamed.2.1 50 = .ok (.iconst 4, 1) := by decide +kernel
theorem d_MD_isNamed_51 : decode M_MD_isNamed.2.1 51 = .ok (.idiv, 1) := by decide +kernel
theorem d_MD_isNamed_52 : decode M_MD_isNamed.2.1 52 = .ok (.iconst 2, 1) := by decide +kernel
theorem d_MD_isNamed_53 : decode M_MD_isNamed.2.1 53 = .ok (.isub, 1) := by decide +kernel
theorem d_MD_isNamed_54 : decode M_MD_isNamed.2.1 54 = .ok (.iaload, 1) := by decide +kernel
theorem d_MD_isNamed_55 : decode M_MD_isNamed.2.1 55 = .ok (.if_icmp .ge 7, 3) := by decide +kernel
theorem d_MD_isNamed_58 : decode M_MD_isNamed.2.1 58 = .ok (.iconst 1, 1) := by decide +kernel
theorem d_MD_isNamed_59 : decode M_MD_isNamed.2.1 59 = .ok (.goto 24, 3) := by decide +kernel
theorem d_MD_isNamed_62 : decode M_MD_isNamed.2.1 62 = .ok (.iconst 0, 1) := by decide +kernel
theorem d_MD_isNamed_63 : decode M_MD_isNamed.2.1 63 = .ok (.goto 20, 3) := by decide +kernel
theorem d_MD_isNamed_66 : decode M_MD_isNamed.2.1 66 = .ok (.iload_n 1, 1) := by decide +kernel
theorem d_MD_isNamed_67 : decode M_MD_isNamed.2.1 67 = .ok (.ifCond .lt 15, 3) := by decide +kernel
theorem d_MD_isNamed_70 : decode M_MD_isNamed.2.1 70 = .ok (.iload_n 1, 1) := by decide +kernel
theorem d_MD_isNamed_71 : decode M_MD_isNamed.2.1 71 = .ok (.aload_n 0, 1) := by decide +kernel
theorem d_MD_isNamed_72 : decode M_MD_isNamed.2.1 72 = .ok (.getfield 150, 3) := by decide +kernel
theorem d_MD_isNamed_75 : decode M_MD_isNamed.2.1 75 = .ok (.if_icmp .ge 7, 3) := by decide +kernel
theorem d_MD_isNamed_78 : decode M_MD_isNamed.2.1 78 = .ok (.iconst 1, 1) := by decide +kernel
theorem d_MD_isNamed_79 : decode M_MD_isNamed.2.1 79 = .ok (.goto 4, 3) := by decide +kernel
theorem d_MD_isNamed_82 : decode M_MD_isNamed.2.1 82 = .ok (.iconst 0, 1) := by decide +kernel
theorem d_MD_isNamed_83 : decode M_MD_isNamed.2.1 83 = .ok (.ireturn, 1) := by decide +kernel
theorem k_MD_isNamed : x_kV M_MD_isNamed "QuestionReaderModel" 1 := ⟨⟨by decide, Or.inl ⟨w_1490, rfl⟩⟩, w_1489, ws_76, ⟨by decide, by decide⟩, by decide +kernel⟩
def B_MD_isDimension_17   (s0 : Int32) (m : x_m) : Option (Int32 × x_m) := (if x_b1 s0 = true then some (s0, m) else none)
theorem b_MD_isDimension_17 {G : x_G} {ex : Bool} {r : Int32 × x_m}   {s0 : Int32} {m : x_m} (h : B_MD_isDimension_17 s0 m = some r) : x_W G M_MD_isDimension (x_rd 0) (x_Q G (x_rd 0) ex (x_pi r)) ex x_np (x_hp m) 0 0 [] [.int s0] 17 := by
  unfold B_MD_isDimension_17 at h
  obtain ⟨g_17, h⟩ := x_gd h
  cases h
  exact x_ri d_MD_isDimension_17 rfl (x_b1_ok g_17).1
def B_MD_isDimension_16    (m : x_m) : Option (Int32 × x_m) := B_MD_isDimension_17 0 m
theorem b_MD_isDimension_16 {G : x_G} {ex : Bool} {r : Int32 × x_m}    {m : x_m} (h : B_MD_isDimension_16 m = some r) : x_W G M_MD_isDimension (x_rd 0) (x_Q G (x_rd 0) ex (x_pi r)) ex x_np (x_hp m) 0 0 [] [] 16 := by
  unfold B_MD_isDimension_16 at h
  refine x_iconst (v := 0) d_MD_isDimension_16 (by decide) ?_
  exact b_MD_isDimension_17 h
def F_MD_isDimension  (a1 : Int32) (m : x_m) : Option (Int32 × x_m) := (if a1 < 0 then B_MD_isDimension_16 m else (if (m.1 387 13) ≤ a1 then B_MD_isDimension_16 m else B_MD_isDimension_17 1 m))
theorem c_MD_isDimension {G : x_G} {ex : Bool} {r : Int32 × x_m}  {a1 : Int32} {m : x_m} (h : F_MD_isDimension a1 m = some r) : x_R G M_MD_isDimension (x_rd 0) ex [.ref 387, .int a1] x_np (x_hp m) (x_pi r) := by
  unfold F_MD_isDimension at h
  show x_W G M_MD_isDimension (x_rd 0) (x_Q G (x_rd 0) ex (x_pi r)) ex x_np (x_hp m) 0 0 [(0, .ref 387), (1, .int a1)] [] 0
  refine x_iload_n d_MD_isDimension_0 rfl rfl ?_
  refine x_if_lt (tgt := 16) d_MD_isDimension_1 (by decide) (fun c_ => ?_) (fun c_ => ?_)
  · replace h := x_it h c_
    refine x_sbk [] (lv2 := []) rfl ?_; exact b_MD_isDimension_16 h
  · replace h := x_ie h c_
    refine x_iload_n d_MD_isDimension_4 rfl rfl ?_
    refine x_aload_n d_MD_isDimension_5 rfl rfl ?_
    refine x_gI d_MD_isDimension_6 (f_MD_150 rfl) sh_MD hp_MD rfl ?_
    refine x_icmp_ge (tgt := 16) d_MD_isDimension_9 (by decide) (fun c_ => ?_) (fun c_ => ?_)
    · replace h := x_it h c_
      refine x_sbk [] (lv2 := []) rfl ?_; exact b_MD_isDimension_16 h
    · replace h := x_ie h c_
      refine x_iconst (v := 1) d_MD_isDimension_12 (by decide) ?_
      refine x_goto (tgt := 17) d_MD_isDimension_13 (by decide) ?_
      refine x_sbk [] (lv2 := []) rfl ?_; exact b_MD_isDimension_17 h
def B_MD_dimension2_56   (s0 : Int32) (m : x_m) : Option (Int32 × x_m) := some (s0, m)
theorem b_MD_dimension2_56 {G : x_G} {ex : Bool} {r : Int32 × x_m}   {s0 : Int32} {m : x_m} (h : B_MD_dimension2_56 s0 m = some r) : x_W G M_MD_dimension2 (x_rd 1) (x_Q G (x_rd 1) ex (x_pi r)) ex x_np (x_hp m) 0 0 [] [.int s0] 56 := by
  unfold B_MD_dimension2_56 at h
  cases h
  exact x_ri d_MD_dimension2_56 rfl rfl
def B_MD_dimension2_23   (l1 : Int32) (l2 : Int32) (s0 : Int32) (m : x_m) : Option (Int32 × x_m) := (if ((x_wS m 387 1 s0).1 387 1) ≤ 0 then (if l2 = 0 then (if x_ix l1 8 = true then B_MD_dimension2_56 ((x_wS m 387 1 s0).2.1 389 l1.toNatClampNeg) (x_wS m 387 1 s0) else none) else (if x_ix l1 8 = true then B_MD_dimension2_56 ((x_wS m 387 1 s0).2.1 390 l1.toNatClampNeg) (x_wS m 387 1 s0) else none)) else B_MD_dimension2_56 0 (x_wS m 387 1 s0))
theorem b_MD_dimension2_23 {G : x_G} {ex : Bool} {r : Int32 × x_m}   {l1 : Int32} {l2 : Int32} {s0 : Int32} {m : x_m} (h : B_MD_dimension2_23 l1 l2 s0 m = some r) : x_W G M_MD_dimension2 (x_rd 1) (x_Q G (x_rd 1) ex (x_pi r)) ex x_np (x_hp m) 0 0 [(0, .ref 387), (1, .int l1), (2, .int l2)] [.int s0, .ref 387] 23 := by
  unfold B_MD_dimension2_23 at h
  refine x_pI d_MD_dimension2_23 (f_MD_57 rfl) tb_MD rfl sh_MD hp_MD rfl ⟨rfl, rfl⟩ ?_
  refine x_aload_n d_MD_dimension2_26 rfl rfl ?_
  refine x_gI d_MD_dimension2_27 (f_MD_57 rfl) sh_MD hp_MD rfl ?_
  refine x_if_le (tgt := 37) d_MD_dimension2_30 (by decide) (fun c_ => ?_) (fun c_ => ?_)
  · replace h := x_it h c_
    refine x_iload_n d_MD_dimension2_37 rfl rfl ?_
    refine x_if_ne (tgt := 50) d_MD_dimension2_38 (by decide) (fun c_ => ?_) (fun c_ => ?_)
    · replace h := x_ie h c_
      refine x_aload_n d_MD_dimension2_50 rfl rfl ?_
      refine x_gC d_MD_dimension2_51 (f_MD_28 rfl) sh_MD hp_MD rfl ?_
      refine x_iload_n d_MD_dimension2_54 rfl rfl ?_
      obtain ⟨g_55, h⟩ := x_gd h
      refine x_lI d_MD_dimension2_55 rfl sa_MD_members ha_MD_members g_55 ?_
      refine x_sbk [] (lv2 := []) rfl ?_; exact b_MD_dimension2_56 h
    · replace h := x_it h c_
      refine x_aload_n d_MD_dimension2_41 rfl rfl ?_
      refine x_gC d_MD_dimension2_42 (f_MD_24 rfl) sh_MD hp_MD rfl ?_
      refine x_iload_n d_MD_dimension2_45 rfl rfl ?_
      obtain ⟨g_46, h⟩ := x_gd h
      refine x_lI d_MD_dimension2_46 rfl sa_MD_levels ha_MD_levels g_46 ?_
      refine x_goto (tgt := 56) d_MD_dimension2_47 (by decide) ?_
      refine x_sbk [] (lv2 := []) rfl ?_; exact b_MD_dimension2_56 h
  · replace h := x_ie h c_
    refine x_iconst (v := 0) d_MD_dimension2_33 (by decide) ?_
    refine x_goto (tgt := 56) d_MD_dimension2_34 (by decide) ?_
    refine x_sbk [] (lv2 := []) rfl ?_; exact b_MD_dimension2_56 h
def B_MD_dimension2_22   (l1 : Int32) (l2 : Int32) (m : x_m) : Option (Int32 × x_m) := B_MD_dimension2_23 l1 l2 1 m
theorem b_MD_dimension2_22 {G : x_G} {ex : Bool} {r : Int32 × x_m}   {l1 : Int32} {l2 : Int32} {m : x_m} (h : B_MD_dimension2_22 l1 l2 m = some r) : x_W G M_MD_dimension2 (x_rd 1) (x_Q G (x_rd 1) ex (x_pi r)) ex x_np (x_hp m) 0 0 [(0, .ref 387), (1, .int l1), (2, .int l2)] [.ref 387] 22 := by
  unfold B_MD_dimension2_22 at h
  refine x_iconst (v := 1) d_MD_dimension2_22 (by decide) ?_
  exact b_MD_dimension2_23 h
def B_MD_dimension2_18   (l1 : Int32) (l2 : Int32) (m : x_m) : Option (Int32 × x_m) := B_MD_dimension2_23 l1 l2 0 m
theorem b_MD_dimension2_18 {G : x_G} {ex : Bool} {r : Int32 × x_m}   {l1 : Int32} {l2 : Int32} {m : x_m} (h : B_MD_dimension2_18 l1 l2 m = some r) : x_W G M_MD_dimension2 (x_rd 1) (x_Q G (x_rd 1) ex (x_pi r)) ex x_np (x_hp m) 0 0 [(0, .ref 387), (1, .int l1), (2, .int l2)] [.ref 387] 18 := by
  unfold B_MD_dimension2_18 at h
  refine x_iconst (v := 0) d_MD_dimension2_18 (by decide) ?_
  refine x_goto (tgt := 23) d_MD_dimension2_19 (by decide) ?_
  exact b_MD_dimension2_23 h
def F_MD_dimension2  (a1 : Int32) (a2 : Int32) (m : x_m) : Option (Int32 × x_m) := ((F_MD_isDimension a1 m).bind fun r3 => (if r3.1 = 0 then B_MD_dimension2_22 a1 a2 r3.2 else (if a2 = 0 then B_MD_dimension2_18 a1 a2 r3.2 else (if a2 = 1 then B_MD_dimension2_18 a1 a2 r3.2 else B_MD_dimension2_22 a1 a2 r3.2))))
theorem c_MD_dimension2 {G : x_G} {ex : Bool} {r : Int32 × x_m}  {a1 : Int32} {a2 : Int32} {m : x_m} (h : F_MD_dimension2 a1 a2 m = some r) : x_R G M_MD_dimension2 (x_rd 1) ex [.ref 387, .int a1, .int a2] x_np (x_hp m) (x_pi r) := by
  unfold F_MD_dimension2 at h
  show x_W G M_MD_dimension2 (x_rd 1) (x_Q G (x_rd 1) ex (x_pi r)) ex x_np (x_hp m) 0 0 [(0, .ref 387), (1, .int a1), (2, .int a2)] [] 0
  refine x_aload_n d_MD_dimension2_0 rfl rfl ?_
  refine x_aload_n d_MD_dimension2_1 rfl rfl ?_
  refine x_iload_n d_MD_dimension2_2 rfl rfl ?_
  obtain ⟨r3, e3, h⟩ := x_bd h
  refine x_cVi (M2 := M_MD_isDimension) (As := [.int a1]) (st := [.ref 387]) d_MD_dimension2_3 w_1459 k_MD_isDimension (c_MD_isDimension e3) rfl sh_MD hp_MD rfl ⟨Nat.le_of_ble_eq_true rfl, Nat.le_of_ble_eq_true rfl⟩ (Nat.le_of_ble_eq_true rfl) (Nat.le_of_ble_eq_true rfl) rfl ?_
  refine x_if_eq (tgt := 22) d_MD_dimension2_6 (by decide) (fun c_ => ?_) (fun c_ => ?_)
  · replace h := x_it h c_
    exact b_MD_dimension2_22 h
  · replace h := x_ie h c_
    refine x_iload_n d_MD_dimension2_9 rfl rfl ?_
    refine x_if_eq (tgt := 18) d_MD_dimension2_10 (by decide) (fun c_ => ?_) (fun c_ => ?_)
    · replace h := x_it h c_
      exact b_MD_dimension2_18 h
    · replace h := x_ie h c_
      refine x_iload_n d_MD_dimension2_13 rfl rfl ?_
      refine x_iconst (v := 1) d_MD_dimension2_14 (by decide) ?_
      refine x_icmp_ne (tgt := 22) d_MD_dimension2_15 (by decide) (fun c_ => ?_) (fun c_ => ?_)
      · replace h := x_ie h c_
        exact b_MD_dimension2_22 h
      · replace h := x_it h c_
        exact b_MD_dimension2_18 h
def B_MD_item2_76   (s0 : Int32) (m : x_m) : Option (Int32 × x_m) := some (s0, m)
theorem b_MD_item2_76 {G : x_G} {ex : Bool} {r : Int32 × x_m}   {s0 : Int32} {m : x_m} (h : B_MD_item2_76 s0 m = some r) : x_W G M_MD_item2 (x_rd 0) (x_Q G (x_rd 0) ex (x_pi r)) ex x_np (x_hp m) 0 0 [] [.int s0] 76 := by
  unfold B_MD_item2_76 at h
  cases h
  exact x_ri d_MD_item2_76 rfl rfl
def B_MD_item2_37   (l1 : Int32) (l2 : Int32) (s0 : Int32) (m : x_m) : Option (Int32 × x_m) := (if ((x_wS m 387 1 s0).1 387 1) ≤ 0 then (if l2 = 0 then (if x_mq ((x_wS m 387 1 s0).2.2.1 387 21) = true then (if x_ix l1 24 = true then B_MD_item2_76 ((x_wS m 387 1 s0).2.1 ((x_wS m 387 1 s0).2.2.1 387 21 + 1) l1.toNatClampNeg) (x_wS m 387 1 s0) else none) else none) else (if x_mq ((x_wS m 387 1 s0).2.2.1 387 21) = true then (if x_ix l1 24 = true then B_MD_item2_76 ((x_wS m 387 1 s0).2.1 ((x_wS m 387 1 s0).2.2.1 387 21 + 2) l1.toNatClampNeg) (x_wS m 387 1 s0) else none) else none)) else B_MD_item2_76 0 (x_wS m 387 1 s0))
theorem b_MD_item2_37 {G : x_G} {ex : Bool} {r : Int32 × x_m}   {l1 : Int32} {l2 : Int32} {s0 : Int32} {m : x_m} (h : B_MD_item2_37 l1 l2 s0 m = some r) : x_W G M_MD_item2 (x_rd 0) (x_Q G (x_rd 0) ex (x_pi r)) ex x_np (x_hp m) 0 0 [(0, .ref 387), (1, .int l1), (2, .int l2)] [.int s0, .ref 387] 37 := by
  unfold B_MD_item2_37 at h
  refine x_pI d_MD_item2_37 (f_MD_57 rfl) tb_MD rfl sh_MD hp_MD rfl ⟨rfl, rfl⟩ ?_
  refine x_aload_n d_MD_item2_40 rfl rfl ?_
  refine x_gI d_MD_item2_41 (f_MD_57 rfl) sh_MD hp_MD rfl ?_
  refine x_if_le (tgt := 51) d_MD_item2_44 (by decide) (fun c_ => ?_) (fun c_ => ?_)
  · replace h := x_it h c_
    refine x_iload_n d_MD_item2_51 rfl rfl ?_
    refine x_if_ne (tgt := 67) d_MD_item2_52 (by decide) (fun c_ => ?_) (fun c_ => ?_)
    · replace h := x_ie h c_
      refine x_aload_n d_MD_item2_67 rfl rfl ?_
      refine x_gR d_MD_item2_68 (f_MD_46 rfl) sh_MD hp_MD rfl ?_
      obtain ⟨g_68, h⟩ := x_gd h
      refine x_gCN d_MD_item2_71 (f_MD_188 rfl) (sh_MQ (x_mq_ok g_68)) (hp_MQ (x_mq_ok g_68)) rfl ?_
      refine x_iload_n d_MD_item2_74 rfl rfl ?_
      obtain ⟨g_75, h⟩ := x_gd h
      refine x_lI d_MD_item2_75 rfl (sa_MQ_of (x_mq_ok g_68)) (ha_MQ_of (x_mq_ok g_68)) g_75 ?_
      refine x_sbk [] (lv2 := []) rfl ?_; exact b_MD_item2_76 h
    · replace h := x_it h c_
      refine x_aload_n d_MD_item2_55 rfl rfl ?_
      refine x_gR d_MD_item2_56 (f_MD_46 rfl) sh_MD hp_MD rfl ?_
      obtain ⟨g_56, h⟩ := x_gd h
      refine x_gCN d_MD_item2_59 (f_MD_185 rfl) (sh_MQ (x_mq_ok g_56)) (hp_MQ (x_mq_ok g_56)) rfl ?_
      refine x_iload_n d_MD_item2_62 rfl rfl ?_
      obtain ⟨g_63, h⟩ := x_gd h
      refine x_lI d_MD_item2_63 rfl (sa_MQ_kind (x_mq_ok g_56)) (ha_MQ_kind (x_mq_ok g_56)) g_63 ?_
      refine x_goto (tgt := 76) d_MD_item2_64 (by decide) ?_
      refine x_sbk [] (lv2 := []) rfl ?_; exact b_MD_item2_76 h
  · replace h := x_ie h c_
    refine x_iconst (v := 0) d_MD_item2_47 (by decide) ?_
    refine x_goto (tgt := 76) d_MD_item2_48 (by decide) ?_
    refine x_sbk [] (lv2 := []) rfl ?_; exact b_MD_item2_76 h
def B_MD_item2_36   (l1 : Int32) (l2 : Int32) (m : x_m) : Option (Int32 × x_m) := B_MD_item2_37 l1 l2 1 m
theorem b_MD_item2_36 {G : x_G} {ex : Bool} {r : Int32 × x_m}   {l1 : Int32} {l2 : Int32} {m : x_m} (h : B_MD_item2_36 l1 l2 m = some r) : x_W G M_MD_item2 (x_rd 0) (x_Q G (x_rd 0) ex (x_pi r)) ex x_np (x_hp m) 0 0 [(0, .ref 387), (1, .int l1), (2, .int l2)] [.ref 387] 36 := by
  unfold B_MD_item2_36 at h
  refine x_iconst (v := 1) d_MD_item2_36 (by decide) ?_
  exact b_MD_item2_37 h
def B_MD_item2_32   (l1 : Int32) (l2 : Int32) (m : x_m) : Option (Int32 × x_m) := B_MD_item2_37 l1 l2 0 m
theorem b_MD_item2_32 {G : x_G} {ex : Bool} {r : Int32 × x_m}   {l1 : Int32} {l2 : Int32} {m : x_m} (h : B_MD_item2_32 l1 l2 m = some r) : x_W G M_MD_item2 (x_rd 0) (x_Q G (x_rd 0) ex (x_pi r)) ex x_np (x_hp m) 0 0 [(0, .ref 387), (1, .int l1), (2, .int l2)] [.ref 387] 32 := by
  unfold B_MD_item2_32 at h
  refine x_iconst (v := 0) d_MD_item2_32 (by decide) ?_
  refine x_goto (tgt := 37) d_MD_item2_33 (by decide) ?_
  exact b_MD_item2_37 h
def F_MD_item2  (a1 : Int32) (a2 : Int32) (m : x_m) : Option (Int32 × x_m) := (if (m.1 387 23) = 0 then B_MD_item2_36 a1 a2 m else (if a1 < 0 then B_MD_item2_36 a1 a2 m else (if x_mq (m.2.2.1 387 21) = true then (if (m.1 (m.2.2.1 387 21) 0) ≤ a1 then B_MD_item2_36 a1 a2 m else (if a2 = 0 then B_MD_item2_32 a1 a2 m else (if a2 = 1 then B_MD_item2_32 a1 a2 m else B_MD_item2_36 a1 a2 m))) else none)))
theorem c_MD_item2 {G : x_G} {ex : Bool} {r : Int32 × x_m}  {a1 : Int32} {a2 : Int32} {m : x_m} (h : F_MD_item2 a1 a2 m = some r) : x_R G M_MD_item2 (x_rd 0) ex [.ref 387, .int a1, .int a2] x_np (x_hp m) (x_pi r) := by
  unfold F_MD_item2 at h
  show x_W G M_MD_item2 (x_rd 0) (x_Q G (x_rd 0) ex (x_pi r)) ex x_np (x_hp m) 0 0 [(0, .ref 387), (1, .int a1), (2, .int a2)] [] 0
  refine x_aload_n d_MD_item2_0 rfl rfl ?_
  refine x_aload_n d_MD_item2_1 rfl rfl ?_
  refine x_gI d_MD_item2_2 (f_MD_280 rfl) sh_MD hp_MD rfl ?_
  refine x_if_eq (tgt := 36) d_MD_item2_5 (by decide) (fun c_ => ?_) (fun c_ => ?_)
  · replace h := x_it h c_
    exact b_MD_item2_36 h
  · replace h := x_ie h c_
    refine x_iload_n d_MD_item2_8 rfl rfl ?_
    refine x_if_lt (tgt := 36) d_MD_item2_9 (by decide) (fun c_ => ?_) (fun c_ => ?_)
    · replace h := x_it h c_
      exact b_MD_item2_36 h
    · replace h := x_ie h c_
      refine x_iload_n d_MD_item2_12 rfl rfl ?_
      refine x_aload_n d_MD_item2_13 rfl rfl ?_
      refine x_gR d_MD_item2_14 (f_MD_46 rfl) sh_MD hp_MD rfl ?_
      obtain ⟨g_14, h⟩ := x_gd h
      refine x_gIN d_MD_item2_17 (f_MD_179 rfl) (sh_MQ (x_mq_ok g_14)) (hp_MQ (x_mq_ok g_14)) rfl ?_
      refine x_icmp_ge (tgt := 36) d_MD_item2_20 (by decide) (fun c_ => ?_) (fun c_ => ?_)
      · replace h := x_it h c_
        exact b_MD_item2_36 h
      · replace h := x_ie h c_
        refine x_iload_n d_MD_item2_23 rfl rfl ?_
        refine x_if_eq (tgt := 32) d_MD_item2_24 (by decide) (fun c_ => ?_) (fun c_ => ?_)
        · replace h := x_it h c_
          exact b_MD_item2_32 h
        · replace h := x_ie h c_
          refine x_iload_n d_MD_item2_27 rfl rfl ?_
          refine x_iconst (v := 1) d_MD_item2_28 (by decide) ?_
          refine x_icmp_ne (tgt := 36) d_MD_item2_29 (by decide) (fun c_ => ?_) (fun c_ => ?_)
          · replace h := x_ie h c_
            exact b_MD_item2_36 h
          · replace h := x_it h c_
            exact b_MD_item2_32 h
def B_MD_fault_44   (s0 : Int32) (m : x_m) : Option (Int32 × x_m) := some (s0, m)
theorem b_MD_fault_44 {G : x_G} {ex : Bool} {r : Int32 × x_m}   {s0 : Int32} {m : x_m} (h : B_MD_fault_44 s0 m = some r) : x_W G M_MD_fault (x_rd 0) (x_Q G (x_rd 0) ex (x_pi r)) ex x_np (x_hp m) 0 0 [] [.int s0] 44 := by
  unfold B_MD_fault_44 at h
  cases h
  exact x_ri d_MD_fault_44 rfl rfl
def B_MD_fault_15   (l1 : Int32) (s0 : Int32) (m : x_m) : Option (Int32 × x_m) := (if ((x_wS m 387 1 s0).1 387 1) ≤ 0 then (if l1 = 0 then B_MD_fault_44 ((x_wS m 387 1 s0).1 387 5) (x_wS m 387 1 s0) else B_MD_fault_44 ((x_wS m 387 1 s0).1 387 6) (x_wS m 387 1 s0)) else B_MD_fault_44 0 (x_wS m 387 1 s0))
theorem b_MD_fault_15 {G : x_G} {ex : Bool} {r : Int32 × x_m}   {l1 : Int32} {s0 : Int32} {m : x_m} (h : B_MD_fault_15 l1 s0 m = some r) : x_W G M_MD_fault (x_rd 0) (x_Q G (x_rd 0) ex (x_pi r)) ex x_np (x_hp m) 0 0 [(0, .ref 387), (1, .int l1)] [.int s0, .ref 387] 15 := by
  unfold B_MD_fault_15 at h
  refine x_pI d_MD_fault_15 (f_MD_57 rfl) tb_MD rfl sh_MD hp_MD rfl ⟨rfl, rfl⟩ ?_
  refine x_aload_n d_MD_fault_18 rfl rfl ?_
  refine x_gI d_MD_fault_19 (f_MD_57 rfl) sh_MD hp_MD rfl ?_
  refine x_if_le (tgt := 29) d_MD_fault_22 (by decide) (fun c_ => ?_) (fun c_ => ?_)
  · replace h := x_it h c_
    refine x_iload_n d_MD_fault_29 rfl rfl ?_
    refine x_if_ne (tgt := 40) d_MD_fault_30 (by decide) (fun c_ => ?_) (fun c_ => ?_)
    · replace h := x_ie h c_
      refine x_aload_n d_MD_fault_40 rfl rfl ?_
      refine x_gI d_MD_fault_41 (f_MD_20 rfl) sh_MD hp_MD rfl ?_
      refine x_sbk [] (lv2 := []) rfl ?_; exact b_MD_fault_44 h
    · replace h := x_it h c_
      refine x_aload_n d_MD_fault_33 rfl rfl ?_
      refine x_gI d_MD_fault_34 (f_MD_67 rfl) sh_MD hp_MD rfl ?_
      refine x_goto (tgt := 44) d_MD_fault_37 (by decide) ?_
      refine x_sbk [] (lv2 := []) rfl ?_; exact b_MD_fault_44 h
  · replace h := x_ie h c_
    refine x_iconst (v := 0) d_MD_fault_25 (by decide) ?_
    refine x_goto (tgt := 44) d_MD_fault_26 (by decide) ?_
    refine x_sbk [] (lv2 := []) rfl ?_; exact b_MD_fault_44 h
def B_MD_fault_10   (l1 : Int32) (m : x_m) : Option (Int32 × x_m) := B_MD_fault_15 l1 0 m
theorem b_MD_fault_10 {G : x_G} {ex : Bool} {r : Int32 × x_m}   {l1 : Int32} {m : x_m} (h : B_MD_fault_10 l1 m = some r) : x_W G M_MD_fault (x_rd 0) (x_Q G (x_rd 0) ex (x_pi r)) ex x_np (x_hp m) 0 0 [(0, .ref 387), (1, .int l1)] [.ref 387] 10 := by
  unfold B_MD_fault_10 at h
  refine x_iconst (v := 0) d_MD_fault_10 (by decide) ?_
  refine x_goto (tgt := 15) d_MD_fault_11 (by decide) ?_
  exact b_MD_fault_15 h
def F_MD_fault  (a1 : Int32) (m : x_m) : Option (Int32 × x_m) := (if a1 = 0 then B_MD_fault_10 a1 m else (if a1 = 1 then B_MD_fault_10 a1 m else B_MD_fault_15 a1 1 m))
theorem c_MD_fault {G : x_G} {ex : Bool} {r : Int32 × x_m}  {a1 : Int32} {m : x_m} (h : F_MD_fault a1 m = some r) : x_R G M_MD_fault (x_rd 0) ex [.ref 387, .int a1] x_np (x_hp m) (x_pi r) := by
  unfold F_MD_fault at h
  show x_W G M_MD_fault (x_rd 0) (x_Q G (x_rd 0) ex (x_pi r)) ex x_np (x_hp m) 0 0 [(0, .ref 387), (1, .int a1)] [] 0
  refine x_aload_n d_MD_fault_0 rfl rfl ?_
  refine x_iload_n d_MD_fault_1 rfl rfl ?_
  refine x_if_eq (tgt := 10) d_MD_fault_2 (by decide) (fun c_ => ?_) (fun c_ => ?_)
  · replace h := x_it h c_
    exact b_MD_fault_10 h
  · replace h := x_ie h c_
    refine x_iload_n d_MD_fault_5 rfl rfl ?_
    refine x_iconst (v := 1) d_MD_fault_6 (by decide) ?_
    refine x_icmp_ne (tgt := 14) d_MD_fault_7 (by decide) (fun c_ => ?_) (fun c_ => ?_)
    · replace h := x_ie h c_
      refine x_iconst (v := 1) d_MD_fault_14 (by decide) ?_
      exact b_MD_fault_15 h
    · replace h := x_it h c_
      exact b_MD_fault_10 h
def B_MD_order_78  (K2 : Int32 → Int32 → x_m → Option (x_m)) : Nat → Int32 → Int32 → Int32 → Int32 → x_m → Option (x_m)
  | 0, _, _, _, _, _ => none
  | f_ + 1, l1, l2, l3, l4, m => (if 4 ≤ l4 then K2 l1 (l2 + 1) m else (if x_ix (((4000 * l1) + (4 * l2)) + l4) 32000 = true then (if x_ix (((4000 * l1) + (4 * l3)) + l4) 32000 = true then (if x_ix (((4000 * l1) + (4 * l2)) + l4) 32000 = true then (if x_ix (((4000 * l1) + (4 * l3)) + l4) 32000 = true then (B_MD_order_78 K2 f_) l1 l2 l3 (l4 + 1) (x_wA (x_wA m 391 (((4000 * l1) + (4 * l2)) + l4).toNatClampNeg (m.2.1 391 (((4000 * l1) + (4 * l3)) + l4).toNatClampNeg)) 391 (((4000 * l1) + (4 * l3)) + l4).toNatClampNeg (m.2.1 391 (((4000 * l1) + (4 * l2)) + l4).toNatClampNeg)) else none) else none) else none) else none))
theorem b_MD_order_78 {G : x_G} {ex : Bool} {r : x_m}  {K2 : Int32 → Int32 → x_m → Option (x_m)} (hK2 : ∀ (l1 : Int32) (l2 : Int32) (m : x_m), K2 l1 l2 m = some r → x_W G M_MD_order (x_rd 0) (x_Q G (x_rd 0) ex (x_pv r)) ex x_np (x_hp m) 0 0 [(0, .ref 387), (1, .int l1), (2, .int l2)] [] 2) : ∀ (f_ : Nat) (l1 : Int32) (l2 : Int32) (l3 : Int32) (l4 : Int32) (m : x_m), B_MD_order_78 K2 f_ l1 l2 l3 l4 m = some r → x_W G M_MD_order (x_rd 0) (x_Q G (x_rd 0) ex (x_pv r)) ex x_np (x_hp m) 0 0 [(0, .ref 387), (1, .int l1), (2, .int l2), (3, .int l3), (4, .int l4)] [] 78 := by
  intro f_
  induction f_ with
  | zero => intro l1 l2 l3 l4 m h; exact nomatch h
  | succ f_ ih =>
    intro l1 l2 l3 l4 m h
    rw [B_MD_order_78] at h
    have hK78 := ih
    refine x_iload d_MD_order_78 rfl ?_
    refine x_iconst (v := 4) d_MD_order_80 (by decide) ?_
    refine x_icmp_ge (tgt := 150) d_MD_order_81 (by decide) (fun c_ => ?_) (fun c_ => ?_)
    · replace h := x_it h c_
      refine x_iinc (v := l2 + 1) (lv2 := [(0, .ref 387), (1, .int l1), (2, .int (l2 + 1)), (3, .int l3), (4, .int l4)]) d_MD_order_150 rfl rfl (by decide) rfl ?_
      refine x_goto (tgt := 2) d_MD_order_153 (by decide) ?_
      refine x_sbk [0, 1, 2] (lv2 := [(0, .ref 387), (1, .int l1), (2, .int (l2 + 1))]) rfl ?_; exact hK2 _ _ _ h
    · replace h := x_ie h c_
      refine x_sipush (v := 4000) d_MD_order_84 (by decide) ?_
      refine x_iload_n d_MD_order_87 rfl rfl ?_
      refine x_imul d_MD_order_88 ?_
      refine x_iconst (v := 4) d_MD_order_89 (by decide) ?_
      refine x_iload_n d_MD_order_90 rfl rfl ?_
      refine x_imul d_MD_order_91 ?_
      refine x_iadd d_MD_order_92 ?_
      refine x_iload d_MD_order_93 rfl ?_
      refine x_iadd d_MD_order_95 ?_
      refine x_istore (lv2 := [(0, .ref 387), (1, .int l1), (2, .int l2), (3, .int l3), (4, .int l4), (5, .int (((4000 * l1) + (4 * l2)) + l4))]) d_MD_order_96 (by decide) rfl ?_
      refine x_sipush (v := 4000) d_MD_order_98 (by decide) ?_
      refine x_iload_n d_MD_order_101 rfl rfl ?_
      refine x_imul d_MD_order_102 ?_
      refine x_iconst (v := 4) d_MD_order_103 (by decide) ?_
      refine x_iload_n d_MD_order_104 rfl rfl ?_
      refine x_imul d_MD_order_105 ?_
      refine x_iadd d_MD_order_106 ?_
      refine x_iload d_MD_order_107 rfl ?_
      refine x_iadd d_MD_order_109 ?_
      refine x_istore (lv2 := [(0, .ref 387), (1, .int l1), (2, .int l2), (3, .int l3), (4, .int l4), (5, .int (((4000 * l1) + (4 * l2)) + l4)), (6, .int (((4000 * l1) + (4 * l3)) + l4))]) d_MD_order_110 (by decide) rfl ?_
      refine x_aload_n d_MD_order_112 rfl rfl ?_
      refine x_gC d_MD_order_113 (f_MD_31 rfl) sh_MD hp_MD rfl ?_
      refine x_iload d_MD_order_116 rfl ?_
      obtain ⟨g_118, h⟩ := x_gd h
      refine x_lI d_MD_order_118 rfl sa_MD_values ha_MD_values g_118 ?_
      refine x_istore (lv2 := [(0, .ref 387), (1, .int l1), (2, .int l2), (3, .int l3), (4, .int l4), (5, .int (((4000 * l1) + (4 * l2)) + l4)), (6, .int (((4000 * l1) + (4 * l3)) + l4)), (7, .int (m.2.1 391 (((4000 * l1) + (4 * l2)) + l4).toNatClampNeg))]) d_MD_order_119 (by decide) rfl ?_
      refine x_aload_n d_MD_order_121 rfl rfl ?_
      refine x_gC d_MD_order_122 (f_MD_31 rfl) sh_MD hp_MD rfl ?_
      refine x_iload d_MD_order_125 rfl ?_
      refine x_aload_n d_MD_order_127 rfl rfl ?_
      refine x_gC d_MD_order_128 (f_MD_31 rfl) sh_MD hp_MD rfl ?_
      refine x_iload d_MD_order_131 rfl ?_
      obtain ⟨g_133, h⟩ := x_gd h
      refine x_lI d_MD_order_133 rfl sa_MD_values ha_MD_values g_133 ?_
      obtain ⟨g_134, h⟩ := x_gd h
      refine x_sI d_MD_order_134 rfl sa_MD_values ha_MD_values g_134 ?_
      refine x_aload_n d_MD_order_135 rfl rfl ?_
      refine x_gC d_MD_order_136 (f_MD_31 rfl) sh_MD hp_MD rfl ?_
      refine x_iload d_MD_order_139 rfl ?_
      refine x_iload d_MD_order_141 rfl ?_
      obtain ⟨g_143, h⟩ := x_gd h
      refine x_sI d_MD_order_143 rfl sa_MD_values ha_MD_values g_143 ?_
      refine x_iinc (v := l4 + 1) (lv2 := [(0, .ref 387), (1, .int l1), (2, .int l2), (3, .int l3), (4, .int (l4 + 1)), (5, .int (((4000 * l1) + (4 * l2)) + l4)), (6, .int (((4000 * l1) + (4 * l3)) + l4)), (7, .int (m.2.1 391 (((4000 * l1) + (4 * l2)) + l4).toNatClampNeg))]) d_MD_order_144 rfl rfl (by decide) rfl ?_
      refine x_goto (tgt := 78) d_MD_order_147 (by decide) ?_
      refine x_sbk [0, 1, 2, 3, 4] (lv2 := [(0, .ref 387), (1, .int l1), (2, .int l2), (3, .int l3), (4, .int (l4 + 1))]) rfl ?_; exact hK78 _ _ _ _ _ h
def B_MD_order_68  (K2 : Int32 → Int32 → x_m → Option (x_m)) (K19 : Int32 → Int32 → Int32 → Int32 → x_m → Option (x_m)) (l1 : Int32) (l2 : Int32) (l4 : Int32) (s0 : Int32) (m : x_m) : Option (x_m) := K19 l1 l2 s0 (l4 + 1) m
theorem b_MD_order_68 {G : x_G} {ex : Bool} {r : x_m}  {K2 : Int32 → Int32 → x_m → Option (x_m)} (hK2 : ∀ (l1 : Int32) (l2 : Int32) (m : x_m), K2 l1 l2 m = some r → x_W G M_MD_order (x_rd 0) (x_Q G (x_rd 0) ex (x_pv r)) ex x_np (x_hp m) 0 0 [(0, .ref 387), (1, .int l1), (2, .int l2)] [] 2) {K19 : Int32 → Int32 → Int32 → Int32 → x_m → Option (x_m)} (hK19 : ∀ (l1 : Int32) (l2 : Int32) (l3 : Int32) (l4 : Int32) (m : x_m), K19 l1 l2 l3 l4 m = some r → x_W G M_MD_order (x_rd 0) (x_Q G (x_rd 0) ex (x_pv r)) ex x_np (x_hp m) 0 0 [(0, .ref 387), (1, .int l1), (2, .int l2), (3, .int l3), (4, .int l4)] [] 19) {l1 : Int32} {l2 : Int32} {l4 : Int32} {s0 : Int32} {m : x_m} (h : B_MD_order_68 K2 K19 l1 l2 l4 s0 m = some r) : x_W G M_MD_order (x_rd 0) (x_Q G (x_rd 0) ex (x_pv r)) ex x_np (x_hp m) 0 0 [(0, .ref 387), (1, .int l1), (2, .int l2), (4, .int l4)] [.int s0] 68 := by
  unfold B_MD_order_68 at h
  refine x_istore_n (lv2 := [(0, .ref 387), (1, .int l1), (2, .int l2), (3, .int s0), (4, .int l4)]) d_MD_order_68 rfl (by decide) rfl ?_
  refine x_iinc (v := l4 + 1) (lv2 := [(0, .ref 387), (1, .int l1), (2, .int l2), (3, .int s0), (4, .int (l4 + 1))]) d_MD_order_69 rfl rfl (by decide) rfl ?_
  refine x_goto (tgt := 19) d_MD_order_72 (by decide) ?_
  exact hK19 _ _ _ _ _ h
def B_MD_order_19  (K2 : Int32 → Int32 → x_m → Option (x_m)) : Nat → Int32 → Int32 → Int32 → Int32 → x_m → Option (x_m)
  | 0, _, _, _, _, _ => none
  | f_ + 1, l1, l2, l3, l4, m => (if x_ix l1 8 = true then (if (m.2.1 390 l1.toNatClampNeg) ≤ l4 then B_MD_order_78 K2 x_fu l1 l2 l3 0 m else (if x_ix ((4000 * l1) + (4 * l4)) 32000 = true then (if x_ix ((4000 * l1) + (4 * l3)) 32000 = true then (if (m.2.1 391 ((4000 * l1) + (4 * l3)).toNatClampNeg) ≤ (m.2.1 391 ((4000 * l1) + (4 * l4)).toNatClampNeg) then B_MD_order_68 K2 (B_MD_order_19 K2 f_) l1 l2 l4 l3 m else B_MD_order_68 K2 (B_MD_order_19 K2 f_) l1 l2 l4 l4 m) else none) else none)) else none)
theorem b_MD_order_19 {G : x_G} {ex : Bool} {r : x_m}  {K2 : Int32 → Int32 → x_m → Option (x_m)} (hK2 : ∀ (l1 : Int32) (l2 : Int32) (m : x_m), K2 l1 l2 m = some r → x_W G M_MD_order (x_rd 0) (x_Q G (x_rd 0) ex (x_pv r)) ex x_np (x_hp m) 0 0 [(0, .ref 387), (1, .int l1), (2, .int l2)] [] 2) : ∀ (f_ : Nat) (l1 : Int32) (l2 : Int32) (l3 : Int32) (l4 : Int32) (m : x_m), B_MD_order_19 K2 f_ l1 l2 l3 l4 m = some r → x_W G M_MD_order (x_rd 0) (x_Q G (x_rd 0) ex (x_pv r)) ex x_np (x_hp m) 0 0 [(0, .ref 387), (1, .int l1), (2, .int l2), (3, .int l3), (4, .int l4)] [] 19 := by
  intro f_
  induction f_ with
  | zero => intro l1 l2 l3 l4 m h; exact nomatch h
  | succ f_ ih =>
    intro l1 l2 l3 l4 m h
    rw [B_MD_order_19] at h
    have hK19 := ih
    refine x_iload d_MD_order_19 rfl ?_
    refine x_aload_n d_MD_order_21 rfl rfl ?_
    refine x_gC d_MD_order_22 (f_MD_28 rfl) sh_MD hp_MD rfl ?_
    refine x_iload_n d_MD_order_25 rfl rfl ?_
    obtain ⟨g_26, h⟩ := x_gd h
    refine x_lI d_MD_order_26 rfl sa_MD_members ha_MD_members g_26 ?_
    refine x_icmp_ge (tgt := 75) d_MD_order_27 (by decide) (fun c_ => ?_) (fun c_ => ?_)
    · replace h := x_it h c_
      refine x_iconst (v := 0) d_MD_order_75 (by decide) ?_
      refine x_istore (lv2 := [(0, .ref 387), (1, .int l1), (2, .int l2), (3, .int l3), (4, .int 0)]) d_MD_order_76 (by decide) rfl ?_
      exact b_MD_order_78 hK2 _ _ _ _ _ _ h
    · replace h := x_ie h c_
      refine x_aload_n d_MD_order_30 rfl rfl ?_
      refine x_gC d_MD_order_31 (f_MD_31 rfl) sh_MD hp_MD rfl ?_
      refine x_sipush (v := 4000) d_MD_order_34 (by decide) ?_
      refine x_iload_n d_MD_order_37 rfl rfl ?_
      refine x_imul d_MD_order_38 ?_
      refine x_iconst (v := 4) d_MD_order_39 (by decide) ?_
      refine x_iload d_MD_order_40 rfl ?_
      refine x_imul d_MD_order_42 ?_
      refine x_iadd d_MD_order_43 ?_
      obtain ⟨g_44, h⟩ := x_gd h
      refine x_lI d_MD_order_44 rfl sa_MD_values ha_MD_values g_44 ?_
      refine x_aload_n d_MD_order_45 rfl rfl ?_
      refine x_gC d_MD_order_46 (f_MD_31 rfl) sh_MD hp_MD rfl ?_
      refine x_sipush (v := 4000) d_MD_order_49 (by decide) ?_
      refine x_iload_n d_MD_order_52 rfl rfl ?_
      refine x_imul d_MD_order_53 ?_
      refine x_iconst (v := 4) d_MD_order_54 (by decide) ?_
      refine x_iload_n d_MD_order_55 rfl rfl ?_
      refine x_imul d_MD_order_56 ?_
      refine x_iadd d_MD_order_57 ?_
      obtain ⟨g_58, h⟩ := x_gd h
      refine x_lI d_MD_order_58 rfl sa_MD_values ha_MD_values g_58 ?_
      refine x_icmp_ge (tgt := 67) d_MD_order_59 (by decide) (fun c_ => ?_) (fun c_ => ?_)
      · replace h := x_it h c_
        refine x_iload_n d_MD_order_67 rfl rfl ?_
        refine x_sbk [0, 1, 2, 4] (lv2 := [(0, .ref 387), (1, .int l1), (2, .int l2), (4, .int l4)]) rfl ?_; exact b_MD_order_68 hK2 hK19 h
      · replace h := x_ie h c_
        refine x_iload d_MD_order_62 rfl ?_
        refine x_goto (tgt := 68) d_MD_order_64 (by decide) ?_
        refine x_sbk [0, 1, 2, 4] (lv2 := [(0, .ref 387), (1, .int l1), (2, .int l2), (4, .int l4)]) rfl ?_; exact b_MD_order_68 hK2 hK19 h
def B_MD_order_2   : Nat → Int32 → Int32 → x_m → Option (x_m)
  | 0, _, _, _ => none
  | f_ + 1, l1, l2, m => (if x_ix l1 8 = true then (if (m.2.1 390 l1.toNatClampNeg) ≤ l2 then some m else B_MD_order_19 (B_MD_order_2 f_) x_fu l1 l2 l2 (l2 + 1) m) else none)
theorem b_MD_order_2 {G : x_G} {ex : Bool} {r : x_m}   : ∀ (f_ : Nat) (l1 : Int32) (l2 : Int32) (m : x_m), B_MD_order_2 f_ l1 l2 m = some r → x_W G M_MD_order (x_rd 0) (x_Q G (x_rd 0) ex (x_pv r)) ex x_np (x_hp m) 0 0 [(0, .ref 387), (1, .int l1), (2, .int l2)] [] 2 := by
  intro f_
  induction f_ with
  | zero => intro l1 l2 m h; exact nomatch h
  | succ f_ ih =>
    intro l1 l2 m h
    rw [B_MD_order_2] at h
    have hK2 := ih
    refine x_iload_n d_MD_order_2 rfl rfl ?_
    refine x_aload_n d_MD_order_3 rfl rfl ?_
    refine x_gC d_MD_order_4 (f_MD_28 rfl) sh_MD hp_MD rfl ?_
    refine x_iload_n d_MD_order_7 rfl rfl ?_
    obtain ⟨g_8, h⟩ := x_gd h
    refine x_lI d_MD_order_8 rfl sa_MD_members ha_MD_members g_8 ?_
    refine x_icmp_ge (tgt := 156) d_MD_order_9 (by decide) (fun c_ => ?_) (fun c_ => ?_)
    · replace h := x_it h c_
      cases h
      exact x_rv d_MD_order_156 rfl
    · replace h := x_ie h c_
      refine x_iload_n d_MD_order_12 rfl rfl ?_
      refine x_istore_n (lv2 := [(0, .ref 387), (1, .int l1), (2, .int l2), (3, .int l2)]) d_MD_order_13 rfl (by decide) rfl ?_
      refine x_iload_n d_MD_order_14 rfl rfl ?_
      refine x_iconst (v := 1) d_MD_order_15 (by decide) ?_
      refine x_iadd d_MD_order_16 ?_
      refine x_istore (lv2 := [(0, .ref 387), (1, .int l1), (2, .int l2), (3, .int l2), (4, .int (l2 + 1))]) d_MD_order_17 (by decide) rfl ?_
      exact b_MD_order_19 hK2 _ _ _ _ _ _ h
def F_MD_order  (a1 : Int32) (m : x_m) : Option (x_m) := B_MD_order_2 x_fu a1 0 m
theorem c_MD_order {G : x_G} {ex : Bool} {r : x_m}  {a1 : Int32} {m : x_m} (h : F_MD_order a1 m = some r) : x_R G M_MD_order (x_rd 0) ex [.ref 387, .int a1] x_np (x_hp m) (x_pv r) := by
  unfold F_MD_order at h
  show x_W G M_MD_order (x_rd 0) (x_Q G (x_rd 0) ex (x_pv r)) ex x_np (x_hp m) 0 0 [(0, .ref 387), (1, .int a1)] [] 0
  refine x_iconst (v := 0) d_MD_order_0 (by decide) ?_
  refine x_istore_n (lv2 := [(0, .ref 387), (1, .int a1), (2, .int 0)]) d_MD_order_1 rfl (by decide) rfl ?_
  exact b_MD_order_2 _ _ _ _ h
def B_MD_open_116   (l1 : Int32) (s0 : Int32) (m : x_m) : Option (Int32 × x_m) := (if x_b1 s0 = true then (if x_b1 l1 = true then some (l1, x_wS m 387 2 s0) else none) else none)
theorem b_MD_open_116 {G : x_G} {ex : Bool} {r : Int32 × x_m}   {l1 : Int32} {s0 : Int32} {m : x_m} (h : B_MD_open_116 l1 s0 m = some r) : x_W G M_MD_open (x_rd 1) (x_Q G (x_rd 1) ex (x_pi r)) ex x_np (x_hp m) 0 0 [(1, .int l1)] [.int s0, .ref 387] 116 := by
  unfold B_MD_open_116 at h
  obtain ⟨g_116, h⟩ := x_gd h
  refine x_pI d_MD_open_116 (f_MD_284 rfl) tb_MD rfl sh_MD hp_MD rfl (x_b1_ok g_116) ?_
  refine x_iload_n d_MD_open_119 rfl rfl ?_
  obtain ⟨g_120, h⟩ := x_gd h
  cases h
  exact x_ri d_MD_open_120 rfl (x_b1_ok g_120).1
def B_MD_open_111   (l1 : Int32) (m : x_m) : Option (Int32 × x_m) := B_MD_open_116 l1 1 m
theorem b_MD_open_111 {G : x_G} {ex : Bool} {r : Int32 × x_m}   {l1 : Int32} {m : x_m} (h : B_MD_open_111 l1 m = some r) : x_W G M_MD_open (x_rd 1) (x_Q G (x_rd 1) ex (x_pi r)) ex x_np (x_hp m) 0 0 [(1, .int l1)] [.ref 387] 111 := by
  unfold B_MD_open_111 at h
  refine x_iconst (v := 1) d_MD_open_111 (by decide) ?_
  refine x_goto (tgt := 116) d_MD_open_112 (by decide) ?_
  exact b_MD_open_116 h
def B_MD_open_99   (l1 : Int32) (m : x_m) : Option (Int32 × x_m) := (if (m.1 387 2) = 0 then (if l1 = 0 then B_MD_open_116 l1 0 m else B_MD_open_111 l1 m) else B_MD_open_111 l1 m)
theorem b_MD_open_99 {G : x_G} {ex : Bool} {r : Int32 × x_m}   {l1 : Int32} {m : x_m} (h : B_MD_open_99 l1 m = some r) : x_W G M_MD_open (x_rd 1) (x_Q G (x_rd 1) ex (x_pi r)) ex x_np (x_hp m) 0 0 [(0, .ref 387), (1, .int l1)] [] 99 := by
  unfold B_MD_open_99 at h
  refine x_aload_n d_MD_open_99 rfl rfl ?_
  refine x_aload_n d_MD_open_100 rfl rfl ?_
  refine x_gI d_MD_open_101 (f_MD_284 rfl) sh_MD hp_MD rfl ?_
  refine x_if_ne (tgt := 111) d_MD_open_104 (by decide) (fun c_ => ?_) (fun c_ => ?_)
  · replace h := x_ie h c_
    refine x_sbk [1] (lv2 := [(1, .int l1)]) rfl ?_; exact b_MD_open_111 h
  · replace h := x_it h c_
    refine x_iload_n d_MD_open_107 rfl rfl ?_
    refine x_if_eq (tgt := 115) d_MD_open_108 (by decide) (fun c_ => ?_) (fun c_ => ?_)
    · replace h := x_it h c_
      refine x_iconst (v := 0) d_MD_open_115 (by decide) ?_
      refine x_sbk [1] (lv2 := [(1, .int l1)]) rfl ?_; exact b_MD_open_116 h
    · replace h := x_ie h c_
      refine x_sbk [1] (lv2 := [(1, .int l1)]) rfl ?_; exact b_MD_open_111 h
def B_MD_open_69   : Nat → Int32 → Int32 → x_m → Option (Int32 × x_m)
  | 0, _, _, _ => none
  | f_ + 1, l1, l2, m => (if (m.1 387 13) ≤ l2 then B_MD_open_99 l1 m else (if l1 = 0 then B_MD_open_99 l1 m else ((F_MD_order l2 m).bind fun r83 => (if x_ix l2 8 = true then (B_MD_open_69 f_) l1 (l2 + 1) (x_wA r83 392 l2.toNatClampNeg 0) else none))))
theorem b_MD_open_69 {G : x_G} {ex : Bool} {r : Int32 × x_m}   : ∀ (f_ : Nat) (l1 : Int32) (l2 : Int32) (m : x_m), B_MD_open_69 f_ l1 l2 m = some r → x_W G M_MD_open (x_rd 1) (x_Q G (x_rd 1) ex (x_pi r)) ex x_np (x_hp m) 0 0 [(0, .ref 387), (1, .int l1), (2, .int l2)] [] 69 := by
  intro f_
  induction f_ with
  | zero => intro l1 l2 m h; exact nomatch h
  | succ f_ ih =>
    intro l1 l2 m h
    rw [B_MD_open_69] at h
    have hK69 := ih
    refine x_iload_n d_MD_open_69 rfl rfl ?_
    refine x_aload_n d_MD_open_70 rfl rfl ?_
    refine x_gI d_MD_open_71 (f_MD_150 rfl) sh_MD hp_MD rfl ?_
    refine x_icmp_ge (tgt := 99) d_MD_open_74 (by decide) (fun c_ => ?_) (fun c_ => ?_)
    · replace h := x_it h c_
      refine x_sbk [0, 1] (lv2 := [(0, .ref 387), (1, .int l1)]) rfl ?_; exact b_MD_open_99 h
    · replace h := x_ie h c_
      refine x_iload_n d_MD_open_77 rfl rfl ?_
      refine x_if_eq (tgt := 99) d_MD_open_78 (by decide) (fun c_ => ?_) (fun c_ => ?_)
      · replace h := x_it h c_
        refine x_sbk [0, 1] (lv2 := [(0, .ref 387), (1, .int l1)]) rfl ?_; exact b_MD_open_99 h
      · replace h := x_ie h c_
        refine x_aload_n d_MD_open_81 rfl rfl ?_
        refine x_iload_n d_MD_open_82 rfl rfl ?_
        obtain ⟨r83, e83, h⟩ := x_bd h
        refine x_cVv (M2 := M_MD_order) (As := [.int l2]) (st := []) d_MD_open_83 w_1447 k_MD_order (c_MD_order e83) rfl sh_MD hp_MD rfl ⟨Nat.le_of_ble_eq_true rfl, Nat.le_of_ble_eq_true rfl⟩ (Nat.le_of_ble_eq_true rfl) (Nat.le_of_ble_eq_true rfl) rfl ?_
        refine x_aload_n d_MD_open_86 rfl rfl ?_
        refine x_gC d_MD_open_87 (f_MD_34 rfl) sh_MD hp_MD rfl ?_
        refine x_iload_n d_MD_open_90 rfl rfl ?_
        refine x_iconst (v := 0) d_MD_open_91 (by decide) ?_
        obtain ⟨g_92, h⟩ := x_gd h
        refine x_sI d_MD_open_92 rfl sa_MD_picked ha_MD_picked g_92 ?_
        refine x_iinc (v := l2 + 1) (lv2 := [(0, .ref 387), (1, .int l1), (2, .int (l2 + 1))]) d_MD_open_93 rfl rfl (by decide) rfl ?_
        refine x_goto (tgt := 69) d_MD_open_96 (by decide) ?_
        exact hK69 _ _ _ h
def B_MD_open_60  (K34 : Int32 → Int32 → x_m → Option (Int32 × x_m)) (l2 : Int32) (s0 : Int32) (m : x_m) : Option (Int32 × x_m) := K34 s0 (l2 + 1) m
theorem b_MD_open_60 {G : x_G} {ex : Bool} {r : Int32 × x_m}  {K34 : Int32 → Int32 → x_m → Option (Int32 × x_m)} (hK34 : ∀ (l1 : Int32) (l2 : Int32) (m : x_m), K34 l1 l2 m = some r → x_W G M_MD_open (x_rd 1) (x_Q G (x_rd 1) ex (x_pi r)) ex x_np (x_hp m) 0 0 [(0, .ref 387), (1, .int l1), (2, .int l2)] [] 34) {l2 : Int32} {s0 : Int32} {m : x_m} (h : B_MD_open_60 K34 l2 s0 m = some r) : x_W G M_MD_open (x_rd 1) (x_Q G (x_rd 1) ex (x_pi r)) ex x_np (x_hp m) 0 0 [(0, .ref 387), (2, .int l2)] [.int s0] 60 := by
  unfold B_MD_open_60 at h
  refine x_istore_n (lv2 := [(0, .ref 387), (1, .int s0), (2, .int l2)]) d_MD_open_60 rfl (by decide) rfl ?_
  refine x_iinc (v := l2 + 1) (lv2 := [(0, .ref 387), (1, .int s0), (2, .int (l2 + 1))]) d_MD_open_61 rfl rfl (by decide) rfl ?_
  refine x_goto (tgt := 34) d_MD_open_64 (by decide) ?_
  exact hK34 _ _ _ h
def B_MD_open_59  (K34 : Int32 → Int32 → x_m → Option (Int32 × x_m)) (l2 : Int32) (m : x_m) : Option (Int32 × x_m) := B_MD_open_60 K34 l2 0 m
theorem b_MD_open_59 {G : x_G} {ex : Bool} {r : Int32 × x_m}  {K34 : Int32 → Int32 → x_m → Option (Int32 × x_m)} (hK34 : ∀ (l1 : Int32) (l2 : Int32) (m : x_m), K34 l1 l2 m = some r → x_W G M_MD_open (x_rd 1) (x_Q G (x_rd 1) ex (x_pi r)) ex x_np (x_hp m) 0 0 [(0, .ref 387), (1, .int l1), (2, .int l2)] [] 34) {l2 : Int32} {m : x_m} (h : B_MD_open_59 K34 l2 m = some r) : x_W G M_MD_open (x_rd 1) (x_Q G (x_rd 1) ex (x_pi r)) ex x_np (x_hp m) 0 0 [(0, .ref 387), (2, .int l2)] [] 59 := by
  unfold B_MD_open_59 at h
  refine x_iconst (v := 0) d_MD_open_59 (by decide) ?_
  exact b_MD_open_60 hK34 h
def B_MD_open_34   : Nat → Int32 → Int32 → x_m → Option (Int32 × x_m)
  | 0, _, _, _ => none
  | f_ + 1, l1, l2, m => (if (m.1 387 13) ≤ l2 then B_MD_open_69 x_fu l1 0 m else (if l1 = 0 then B_MD_open_59 (B_MD_open_34 f_) l2 m else (if x_ix l2 8 = true then (if (m.2.1 390 l2.toNatClampNeg) ≤ 0 then B_MD_open_59 (B_MD_open_34 f_) l2 m else B_MD_open_60 (B_MD_open_34 f_) l2 1 m) else none)))
theorem b_MD_open_34 {G : x_G} {ex : Bool} {r : Int32 × x_m}   : ∀ (f_ : Nat) (l1 : Int32) (l2 : Int32) (m : x_m), B_MD_open_34 f_ l1 l2 m = some r → x_W G M_MD_open (x_rd 1) (x_Q G (x_rd 1) ex (x_pi r)) ex x_np (x_hp m) 0 0 [(0, .ref 387), (1, .int l1), (2, .int l2)] [] 34 := by
  intro f_
  induction f_ with
  | zero => intro l1 l2 m h; exact nomatch h
  | succ f_ ih =>
    intro l1 l2 m h
    rw [B_MD_open_34] at h
    have hK34 := ih
    refine x_iload_n d_MD_open_34 rfl rfl ?_
    refine x_aload_n d_MD_open_35 rfl rfl ?_
    refine x_gI d_MD_open_36 (f_MD_150 rfl) sh_MD hp_MD rfl ?_
    refine x_icmp_ge (tgt := 67) d_MD_open_39 (by decide) (fun c_ => ?_) (fun c_ => ?_)
    · replace h := x_it h c_
      refine x_iconst (v := 0) d_MD_open_67 (by decide) ?_
      refine x_istore_n (lv2 := [(0, .ref 387), (1, .int l1), (2, .int 0)]) d_MD_open_68 rfl (by decide) rfl ?_
      exact b_MD_open_69 _ _ _ _ h
    · replace h := x_ie h c_
      refine x_iload_n d_MD_open_42 rfl rfl ?_
      refine x_if_eq (tgt := 59) d_MD_open_43 (by decide) (fun c_ => ?_) (fun c_ => ?_)
      · replace h := x_it h c_
        refine x_sbk [0, 2] (lv2 := [(0, .ref 387), (2, .int l2)]) rfl ?_; exact b_MD_open_59 hK34 h
      · replace h := x_ie h c_
        refine x_aload_n d_MD_open_46 rfl rfl ?_
        refine x_gC d_MD_open_47 (f_MD_28 rfl) sh_MD hp_MD rfl ?_
        refine x_iload_n d_MD_open_50 rfl rfl ?_
        obtain ⟨g_51, h⟩ := x_gd h
        refine x_lI d_MD_open_51 rfl sa_MD_members ha_MD_members g_51 ?_
        refine x_if_le (tgt := 59) d_MD_open_52 (by decide) (fun c_ => ?_) (fun c_ => ?_)
        · replace h := x_it h c_
          refine x_sbk [0, 2] (lv2 := [(0, .ref 387), (2, .int l2)]) rfl ?_; exact b_MD_open_59 hK34 h
        · replace h := x_ie h c_
          refine x_iconst (v := 1) d_MD_open_55 (by decide) ?_
          refine x_goto (tgt := 60) d_MD_open_56 (by decide) ?_
          refine x_sbk [0, 2] (lv2 := [(0, .ref 387), (2, .int l2)]) rfl ?_; exact b_MD_open_60 hK34 h
def B_MD_open_31   (s0 : Int32) (m : x_m) : Option (Int32 × x_m) := B_MD_open_34 x_fu s0 0 m
theorem b_MD_open_31 {G : x_G} {ex : Bool} {r : Int32 × x_m}   {s0 : Int32} {m : x_m} (h : B_MD_open_31 s0 m = some r) : x_W G M_MD_open (x_rd 1) (x_Q G (x_rd 1) ex (x_pi r)) ex x_np (x_hp m) 0 0 [(0, .ref 387)] [.int s0] 31 := by
  unfold B_MD_open_31 at h
  refine x_istore_n (lv2 := [(0, .ref 387), (1, .int s0)]) d_MD_open_31 rfl (by decide) rfl ?_
  refine x_iconst (v := 0) d_MD_open_32 (by decide) ?_
  refine x_istore_n (lv2 := [(0, .ref 387), (1, .int s0), (2, .int 0)]) d_MD_open_33 rfl (by decide) rfl ?_
  exact b_MD_open_34 _ _ _ _ h
def B_MD_open_30    (m : x_m) : Option (Int32 × x_m) := B_MD_open_31 0 m
theorem b_MD_open_30 {G : x_G} {ex : Bool} {r : Int32 × x_m}    {m : x_m} (h : B_MD_open_30 m = some r) : x_W G M_MD_open (x_rd 1) (x_Q G (x_rd 1) ex (x_pi r)) ex x_np (x_hp m) 0 0 [(0, .ref 387)] [] 30 := by
  unfold B_MD_open_30 at h
  refine x_iconst (v := 0) d_MD_open_30 (by decide) ?_
  exact b_MD_open_31 h
def F_MD_open   (m : x_m) : Option (Int32 × x_m) := (if ((x_wS m 387 1 0).1 387 2) = 0 then (if ((x_wS m 387 1 0).1 387 13) ≤ 0 then B_MD_open_30 (x_wS m 387 1 0) else (if ((x_wS m 387 1 0).1 387 18) ≤ 0 then B_MD_open_30 (x_wS m 387 1 0) else B_MD_open_31 1 (x_wS m 387 1 0))) else B_MD_open_30 (x_wS m 387 1 0))
theorem c_MD_open {G : x_G} {ex : Bool} {r : Int32 × x_m}   {m : x_m} (h : F_MD_open m = some r) : x_R G M_MD_open (x_rd 1) ex [.ref 387] x_np (x_hp m) (x_pi r) := by
  unfold F_MD_open at h
  show x_W G M_MD_open (x_rd 1) (x_Q G (x_rd 1) ex (x_pi r)) ex x_np (x_hp m) 0 0 [(0, .ref 387)] [] 0
  refine x_aload_n d_MD_open_0 rfl rfl ?_
  refine x_iconst (v := 0) d_MD_open_1 (by decide) ?_
  refine x_pI d_MD_open_2 (f_MD_57 rfl) tb_MD rfl sh_MD hp_MD rfl ⟨rfl, rfl⟩ ?_
  refine x_aload_n d_MD_open_5 rfl rfl ?_
  refine x_gI d_MD_open_6 (f_MD_284 rfl) sh_MD hp_MD rfl ?_
  refine x_if_ne (tgt := 30) d_MD_open_9 (by decide) (fun c_ => ?_) (fun c_ => ?_)
  · replace h := x_ie h c_
    exact b_MD_open_30 h
  · replace h := x_it h c_
    refine x_aload_n d_MD_open_12 rfl rfl ?_
    refine x_gI d_MD_open_13 (f_MD_150 rfl) sh_MD hp_MD rfl ?_
    refine x_if_le (tgt := 30) d_MD_open_16 (by decide) (fun c_ => ?_) (fun c_ => ?_)
    · replace h := x_it h c_
      exact b_MD_open_30 h
    · replace h := x_ie h c_
      refine x_aload_n d_MD_open_19 rfl rfl ?_
      refine x_gI d_MD_open_20 (f_MD_157 rfl) sh_MD hp_MD rfl ?_
      refine x_if_le (tgt := 30) d_MD_open_23 (by decide) (fun c_ => ?_) (fun c_ => ?_)
      · replace h := x_it h c_
        exact b_MD_open_30 h
      · replace h := x_ie h c_
        refine x_iconst (v := 1) d_MD_open_26 (by decide) ?_
        refine x_goto (tgt := 31) d_MD_open_27 (by decide) ?_
        exact b_MD_open_31 h
def B_MD_count_158   (s0 : Int32) (m : x_m) : Option (Int32 × x_m) := some (s0, m)
theorem b_MD_count_158 {G : x_G} {ex : Bool} {r : Int32 × x_m}   {s0 : Int32} {m : x_m} (h : B_MD_count_158 s0 m = some r) : x_W G M_MD_count (x_rd 0) (x_Q G (x_rd 0) ex (x_pi r)) ex x_np (x_hp m) 0 0 [] [.int s0] 158 := by
  unfold B_MD_count_158 at h
  cases h
  exact x_ri d_MD_count_158 rfl rfl
def B_MD_count_139   (s0 : Int32) (m : x_m) : Option (Int32 × x_m) := some (s0, m)
theorem b_MD_count_139 {G : x_G} {ex : Bool} {r : Int32 × x_m}   {s0 : Int32} {m : x_m} (h : B_MD_count_139 s0 m = some r) : x_W G M_MD_count (x_rd 0) (x_Q G (x_rd 0) ex (x_pi r)) ex x_np (x_hp m) 0 0 [] [.int s0] 139 := by
  unfold B_MD_count_139 at h
  cases h
  exact x_ri d_MD_count_139 rfl rfl
def B_MD_count_120   (s0 : Int32) (m : x_m) : Option (Int32 × x_m) := some (s0, m)
theorem b_MD_count_120 {G : x_G} {ex : Bool} {r : Int32 × x_m}   {s0 : Int32} {m : x_m} (h : B_MD_count_120 s0 m = some r) : x_W G M_MD_count (x_rd 0) (x_Q G (x_rd 0) ex (x_pi r)) ex x_np (x_hp m) 0 0 [] [.int s0] 120 := by
  unfold B_MD_count_120 at h
  cases h
  exact x_ri d_MD_count_120 rfl rfl
def B_MD_count_101   (s0 : Int32) (m : x_m) : Option (Int32 × x_m) := some (s0, m)
theorem b_MD_count_101 {G : x_G} {ex : Bool} {r : Int32 × x_m}   {s0 : Int32} {m : x_m} (h : B_MD_count_101 s0 m = some r) : x_W G M_MD_count (x_rd 0) (x_Q G (x_rd 0) ex (x_pi r)) ex x_np (x_hp m) 0 0 [] [.int s0] 101 := by
  unfold B_MD_count_101 at h
  cases h
  exact x_ri d_MD_count_101 rfl rfl
def B_MD_count_16   (l1 : Int32) (s0 : Int32) (m : x_m) : Option (Int32 × x_m) := (if ((x_wS m 387 1 s0).1 387 1) ≤ 0 then (if l1 = 0 then some ((x_wS m 387 1 s0).1 387 13, x_wS m 387 1 s0) else (if l1 = 1 then some ((x_wS m 387 1 s0).1 387 18, x_wS m 387 1 s0) else (if l1 = 2 then some ((x_wS m 387 1 s0).1 387 4, x_wS m 387 1 s0) else (if l1 = 3 then (if ((x_wS m 387 1 s0).1 387 23) = 0 then B_MD_count_101 0 (x_wS m 387 1 s0) else (if x_mq ((x_wS m 387 1 s0).2.2.1 387 21) = true then B_MD_count_101 ((x_wS m 387 1 s0).1 ((x_wS m 387 1 s0).2.2.1 387 21) 0) (x_wS m 387 1 s0) else none)) else (if l1 = 4 then (if ((x_wS m 387 1 s0).1 387 23) = 0 then B_MD_count_120 0 (x_wS m 387 1 s0) else (if x_mq ((x_wS m 387 1 s0).2.2.1 387 21) = true then B_MD_count_120 ((x_wS m 387 1 s0).1 ((x_wS m 387 1 s0).2.2.1 387 21) 4) (x_wS m 387 1 s0) else none)) else (if l1 = 5 then (if ((x_wS m 387 1 s0).1 387 23) = 0 then B_MD_count_139 0 (x_wS m 387 1 s0) else (if x_mq ((x_wS m 387 1 s0).2.2.1 387 21) = true then B_MD_count_139 ((x_wS m 387 1 s0).1 ((x_wS m 387 1 s0).2.2.1 387 21) 9) (x_wS m 387 1 s0) else none)) else (if ((x_wS m 387 1 s0).1 387 23) = 0 then B_MD_count_158 0 (x_wS m 387 1 s0) else (if x_mq ((x_wS m 387 1 s0).2.2.1 387 21) = true then B_MD_count_158 ((x_wS m 387 1 s0).1 ((x_wS m 387 1 s0).2.2.1 387 21) 13) (x_wS m 387 1 s0) else none)))))))) else some (0, x_wS m 387 1 s0))
theorem b_MD_count_16 {G : x_G} {ex : Bool} {r : Int32 × x_m}   {l1 : Int32} {s0 : Int32} {m : x_m} (h : B_MD_count_16 l1 s0 m = some r) : x_W G M_MD_count (x_rd 0) (x_Q G (x_rd 0) ex (x_pi r)) ex x_np (x_hp m) 0 0 [(0, .ref 387), (1, .int l1)] [.int s0, .ref 387] 16 := by
  unfold B_MD_count_16 at h
  refine x_pI d_MD_count_16 (f_MD_57 rfl) tb_MD rfl sh_MD hp_MD rfl ⟨rfl, rfl⟩ ?_
  refine x_aload_n d_MD_count_19 rfl rfl ?_
  refine x_gI d_MD_count_20 (f_MD_57 rfl) sh_MD hp_MD rfl ?_
  refine x_if_le (tgt := 28) d_MD_count_23 (by decide) (fun c_ => ?_) (fun c_ => ?_)
  · replace h := x_it h c_
    refine x_iload_n d_MD_count_28 rfl rfl ?_
    by_cases c0_ : l1 = 0
    · replace h := x_it h c0_
      refine x_tsI (tgt := 68) d_MD_count_29 c0_ (by decide) (by decide) rfl (by decide) ?_
      refine x_aload_n d_MD_count_68 rfl rfl ?_
      refine x_gI d_MD_count_69 (f_MD_150 rfl) sh_MD hp_MD rfl ?_
      cases h
      exact x_ri d_MD_count_72 rfl rfl
    · replace h := x_ie h c0_
      by_cases c1_ : l1 = 1
      · replace h := x_it h c1_
        refine x_tsI (tgt := 73) d_MD_count_29 c1_ (by decide) (by decide) rfl (by decide) ?_
        refine x_aload_n d_MD_count_73 rfl rfl ?_
        refine x_gI d_MD_count_74 (f_MD_157 rfl) sh_MD hp_MD rfl ?_
        cases h
        exact x_ri d_MD_count_77 rfl rfl
      · replace h := x_ie h c1_
        by_cases c2_ : l1 = 2
        · replace h := x_it h c2_
          refine x_tsI (tgt := 78) d_MD_count_29 c2_ (by decide) (by decide) rfl (by decide) ?_
          refine x_aload_n d_MD_count_78 rfl rfl ?_
          refine x_gI d_MD_count_79 (f_MD_60 rfl) sh_MD hp_MD rfl ?_
          cases h
          exact x_ri d_MD_count_82 rfl rfl
        · replace h := x_ie h c2_
          by_cases c3_ : l1 = 3
          · replace h := x_it h c3_
            refine x_tsI (tgt := 83) d_MD_count_29 c3_ (by decide) (by decide) rfl (by decide) ?_
            refine x_aload_n d_MD_count_83 rfl rfl ?_
            refine x_gI d_MD_count_84 (f_MD_280 rfl) sh_MD hp_MD rfl ?_
            refine x_if_eq (tgt := 100) d_MD_count_87 (by decide) (fun c_ => ?_) (fun c_ => ?_)
            · replace h := x_it h c_
              refine x_iconst (v := 0) d_MD_count_100 (by decide) ?_
              refine x_sbk [] (lv2 := []) rfl ?_; exact b_MD_count_101 h
            · replace h := x_ie h c_
              refine x_aload_n d_MD_count_90 rfl rfl ?_
              refine x_gR d_MD_count_91 (f_MD_46 rfl) sh_MD hp_MD rfl ?_
              obtain ⟨g_91, h⟩ := x_gd h
              refine x_gIN d_MD_count_94 (f_MD_179 rfl) (sh_MQ (x_mq_ok g_91)) (hp_MQ (x_mq_ok g_91)) rfl ?_
              refine x_goto (tgt := 101) d_MD_count_97 (by decide) ?_
              refine x_sbk [] (lv2 := []) rfl ?_; exact b_MD_count_101 h
          · replace h := x_ie h c3_
            by_cases c4_ : l1 = 4
            · replace h := x_it h c4_
              refine x_tsI (tgt := 102) d_MD_count_29 c4_ (by decide) (by decide) rfl (by decide) ?_
              refine x_aload_n d_MD_count_102 rfl rfl ?_
              refine x_gI d_MD_count_103 (f_MD_280 rfl) sh_MD hp_MD rfl ?_
              refine x_if_eq (tgt := 119) d_MD_count_106 (by decide) (fun c_ => ?_) (fun c_ => ?_)
              · replace h := x_it h c_
                refine x_iconst (v := 0) d_MD_count_119 (by decide) ?_
                refine x_sbk [] (lv2 := []) rfl ?_; exact b_MD_count_120 h
              · replace h := x_ie h c_
                refine x_aload_n d_MD_count_109 rfl rfl ?_
                refine x_gR d_MD_count_110 (f_MD_46 rfl) sh_MD hp_MD rfl ?_
                obtain ⟨g_110, h⟩ := x_gd h
                refine x_gIN d_MD_count_113 (f_MD_240 rfl) (sh_MQ (x_mq_ok g_110)) (hp_MQ (x_mq_ok g_110)) rfl ?_
                refine x_goto (tgt := 120) d_MD_count_116 (by decide) ?_
                refine x_sbk [] (lv2 := []) rfl ?_; exact b_MD_count_120 h
            · replace h := x_ie h c4_
              by_cases c5_ : l1 = 5
              · replace h := x_it h c5_
                refine x_tsI (tgt := 121) d_MD_count_29 c5_ (by decide) (by decide) rfl (by decide) ?_
                refine x_aload_n d_MD_count_121 rfl rfl ?_
                refine x_gI d_MD_count_122 (f_MD_280 rfl) sh_MD hp_MD rfl ?_
                refine x_if_eq (tgt := 138) d_MD_count_125 (by decide) (fun c_ => ?_) (fun c_ => ?_)
                · replace h := x_it h c_
                  refine x_iconst (v := 0) d_MD_count_138 (by decide) ?_
                  refine x_sbk [] (lv2 := []) rfl ?_; exact b_MD_count_139 h
                · replace h := x_ie h c_
                  refine x_aload_n d_MD_count_128 rfl rfl ?_
                  refine x_gR d_MD_count_129 (f_MD_46 rfl) sh_MD hp_MD rfl ?_
                  obtain ⟨g_129, h⟩ := x_gd h
                  refine x_gIN d_MD_count_132 (f_MD_264 rfl) (sh_MQ (x_mq_ok g_129)) (hp_MQ (x_mq_ok g_129)) rfl ?_
                  refine x_goto (tgt := 139) d_MD_count_135 (by decide) ?_
                  refine x_sbk [] (lv2 := []) rfl ?_; exact b_MD_count_139 h
              · replace h := x_ie h c5_
                refine x_tsO (tgt := 140) d_MD_count_29 (x_tsd (n := 6) (by decide) (fun j hj => match j, hj with | 0, _ => fun e_ => c0_ (e_.trans (by decide)) | 1, _ => fun e_ => c1_ (e_.trans (by decide)) | 2, _ => fun e_ => c2_ (e_.trans (by decide)) | 3, _ => fun e_ => c3_ (e_.trans (by decide)) | 4, _ => fun e_ => c4_ (e_.trans (by decide)) | 5, _ => fun e_ => c5_ (e_.trans (by decide)) | _ + 6, hz => absurd hz (by omega))) (by decide) ?_
                refine x_aload_n d_MD_count_140 rfl rfl ?_
                refine x_gI d_MD_count_141 (f_MD_280 rfl) sh_MD hp_MD rfl ?_
                refine x_if_eq (tgt := 157) d_MD_count_144 (by decide) (fun c_ => ?_) (fun c_ => ?_)
                · replace h := x_it h c_
                  refine x_iconst (v := 0) d_MD_count_157 (by decide) ?_
                  refine x_sbk [] (lv2 := []) rfl ?_; exact b_MD_count_158 h
                · replace h := x_ie h c_
                  refine x_aload_n d_MD_count_147 rfl rfl ?_
                  refine x_gR d_MD_count_148 (f_MD_46 rfl) sh_MD hp_MD rfl ?_
                  obtain ⟨g_148, h⟩ := x_gd h
                  refine x_gIN d_MD_count_151 (f_MD_217 rfl) (sh_MQ (x_mq_ok g_148)) (hp_MQ (x_mq_ok g_148)) rfl ?_
                  refine x_goto (tgt := 158) d_MD_count_154 (by decide) ?_
                  refine x_sbk [] (lv2 := []) rfl ?_; exact b_MD_count_158 h
  · replace h := x_ie h c_
    refine x_iconst (v := 0) d_MD_count_26 (by decide) ?_
    cases h
    exact x_ri d_MD_count_27 rfl rfl
def B_MD_count_11   (l1 : Int32) (m : x_m) : Option (Int32 × x_m) := B_MD_count_16 l1 1 m
theorem b_MD_count_11 {G : x_G} {ex : Bool} {r : Int32 × x_m}   {l1 : Int32} {m : x_m} (h : B_MD_count_11 l1 m = some r) : x_W G M_MD_count (x_rd 0) (x_Q G (x_rd 0) ex (x_pi r)) ex x_np (x_hp m) 0 0 [(0, .ref 387), (1, .int l1)] [.ref 387] 11 := by
  unfold B_MD_count_11 at h
  refine x_iconst (v := 1) d_MD_count_11 (by decide) ?_
  refine x_goto (tgt := 16) d_MD_count_12 (by decide) ?_
  exact b_MD_count_16 h
def F_MD_count  (a1 : Int32) (m : x_m) : Option (Int32 × x_m) := (if a1 < 0 then B_MD_count_11 a1 m else (if a1 ≤ 6 then B_MD_count_16 a1 0 m else B_MD_count_11 a1 m))
theorem c_MD_count {G : x_G} {ex : Bool} {r : Int32 × x_m}  {a1 : Int32} {m : x_m} (h : F_MD_count a1 m = some r) : x_R G M_MD_count (x_rd 0) ex [.ref 387, .int a1] x_np (x_hp m) (x_pi r) := by
  unfold F_MD_count at h
  show x_W G M_MD_count (x_rd 0) (x_Q G (x_rd 0) ex (x_pi r)) ex x_np (x_hp m) 0 0 [(0, .ref 387), (1, .int a1)] [] 0
  refine x_aload_n d_MD_count_0 rfl rfl ?_
  refine x_iload_n d_MD_count_1 rfl rfl ?_
  refine x_if_lt (tgt := 11) d_MD_count_2 (by decide) (fun c_ => ?_) (fun c_ => ?_)
  · replace h := x_it h c_
    exact b_MD_count_11 h
  · replace h := x_ie h c_
    refine x_iload_n d_MD_count_5 rfl rfl ?_
    refine x_bipush (v := 6) d_MD_count_6 (by decide) ?_
    refine x_icmp_le (tgt := 15) d_MD_count_8 (by decide) (fun c_ => ?_) (fun c_ => ?_)
    · replace h := x_it h c_
      refine x_iconst (v := 0) d_MD_count_15 (by decide) ?_
      exact b_MD_count_16 h
    · replace h := x_ie h c_
      exact b_MD_count_11 h
def B_MD_isValue_41   (s0 : Int32) (m : x_m) : Option (Int32 × x_m) := (if x_b1 s0 = true then some (s0, m) else none)
theorem b_MD_isValue_41 {G : x_G} {ex : Bool} {r : Int32 × x_m}   {s0 : Int32} {m : x_m} (h : B_MD_isValue_41 s0 m = some r) : x_W G M_MD_isValue (x_rd 1) (x_Q G (x_rd 1) ex (x_pi r)) ex x_np (x_hp m) 0 0 [] [.int s0] 41 := by
  unfold B_MD_isValue_41 at h
  obtain ⟨g_41, h⟩ := x_gd h
  cases h
  exact x_ri d_MD_isValue_41 rfl (x_b1_ok g_41).1
def B_MD_isValue_40    (m : x_m) : Option (Int32 × x_m) := B_MD_isValue_41 0 m
theorem b_MD_isValue_40 {G : x_G} {ex : Bool} {r : Int32 × x_m}    {m : x_m} (h : B_MD_isValue_40 m = some r) : x_W G M_MD_isValue (x_rd 1) (x_Q G (x_rd 1) ex (x_pi r)) ex x_np (x_hp m) 0 0 [] [] 40 := by
  unfold B_MD_isValue_40 at h
  refine x_iconst (v := 0) d_MD_isValue_40 (by decide) ?_
  exact b_MD_isValue_41 h
def F_MD_isValue  (a1 : Int32) (a2 : Int32) (a3 : Int32) (m : x_m) : Option (Int32 × x_m) := ((F_MD_isDimension a1 m).bind fun r2 => (if r2.1 = 0 then B_MD_isValue_40 r2.2 else (if a2 < 0 then B_MD_isValue_40 r2.2 else (if x_ix a1 8 = true then (if (r2.2.2.1 389 a1.toNatClampNeg) ≤ a2 then B_MD_isValue_40 r2.2 else (if a3 < 0 then B_MD_isValue_40 r2.2 else (if x_ix a1 8 = true then (if (r2.2.2.1 390 a1.toNatClampNeg) ≤ a3 then B_MD_isValue_40 r2.2 else B_MD_isValue_41 1 r2.2) else none))) else none))))
theorem c_MD_isValue {G : x_G} {ex : Bool} {r : Int32 × x_m}  {a1 : Int32} {a2 : Int32} {a3 : Int32} {m : x_m} (h : F_MD_isValue a1 a2 a3 m = some r) : x_R G M_MD_isValue (x_rd 1) ex [.ref 387, .int a1, .int a2, .int a3] x_np (x_hp m) (x_pi r) := by
  unfold F_MD_isValue at h
  show x_W G M_MD_isValue (x_rd 1) (x_Q G (x_rd 1) ex (x_pi r)) ex x_np (x_hp m) 0 0 [(0, .ref 387), (1, .int a1), (2, .int a2), (3, .int a3)] [] 0
  refine x_aload_n d_MD_isValue_0 rfl rfl ?_
  refine x_iload_n d_MD_isValue_1 rfl rfl ?_
  obtain ⟨r2, e2, h⟩ := x_bd h
  refine x_cVi (M2 := M_MD_isDimension) (As := [.int a1]) (st := []) d_MD_isValue_2 w_1459 k_MD_isDimension (c_MD_isDimension e2) rfl sh_MD hp_MD rfl ⟨Nat.le_of_ble_eq_true rfl, Nat.le_of_ble_eq_true rfl⟩ (Nat.le_of_ble_eq_true rfl) (Nat.le_of_ble_eq_true rfl) rfl ?_
  refine x_if_eq (tgt := 40) d_MD_isValue_5 (by decide) (fun c_ => ?_) (fun c_ => ?_)
  · replace h := x_it h c_
    refine x_sbk [] (lv2 := []) rfl ?_; exact b_MD_isValue_40 h
  · replace h := x_ie h c_
    refine x_iload_n d_MD_isValue_8 rfl rfl ?_
    refine x_if_lt (tgt := 40) d_MD_isValue_9 (by decide) (fun c_ => ?_) (fun c_ => ?_)
    · replace h := x_it h c_
      refine x_sbk [] (lv2 := []) rfl ?_; exact b_MD_isValue_40 h
    · replace h := x_ie h c_
      refine x_iload_n d_MD_isValue_12 rfl rfl ?_
      refine x_aload_n d_MD_isValue_13 rfl rfl ?_
      refine x_gC d_MD_isValue_14 (f_MD_24 rfl) sh_MD hp_MD rfl ?_
      refine x_iload_n d_MD_isValue_17 rfl rfl ?_
      obtain ⟨g_18, h⟩ := x_gd h
      refine x_lI d_MD_isValue_18 rfl sa_MD_levels ha_MD_levels g_18 ?_
      refine x_icmp_ge (tgt := 40) d_MD_isValue_19 (by decide) (fun c_ => ?_) (fun c_ => ?_)
      · replace h := x_it h c_
        refine x_sbk [] (lv2 := []) rfl ?_; exact b_MD_isValue_40 h
      · replace h := x_ie h c_
        refine x_iload_n d_MD_isValue_22 rfl rfl ?_
        refine x_if_lt (tgt := 40) d_MD_isValue_23 (by decide) (fun c_ => ?_) (fun c_ => ?_)
        · replace h := x_it h c_
          refine x_sbk [] (lv2 := []) rfl ?_; exact b_MD_isValue_40 h
        · replace h := x_ie h c_
          refine x_iload_n d_MD_isValue_26 rfl rfl ?_
          refine x_aload_n d_MD_isValue_27 rfl rfl ?_
          refine x_gC d_MD_isValue_28 (f_MD_28 rfl) sh_MD hp_MD rfl ?_
          refine x_iload_n d_MD_isValue_31 rfl rfl ?_
          obtain ⟨g_32, h⟩ := x_gd h
          refine x_lI d_MD_isValue_32 rfl sa_MD_members ha_MD_members g_32 ?_
          refine x_icmp_ge (tgt := 40) d_MD_isValue_33 (by decide) (fun c_ => ?_) (fun c_ => ?_)
          · replace h := x_it h c_
            refine x_sbk [] (lv2 := []) rfl ?_; exact b_MD_isValue_40 h
          · replace h := x_ie h c_
            refine x_iconst (v := 1) d_MD_isValue_36 (by decide) ?_
            refine x_goto (tgt := 41) d_MD_isValue_37 (by decide) ?_
            refine x_sbk [] (lv2 := []) rfl ?_; exact b_MD_isValue_41 h
def F_MD_valueOf  (a1 : Int32) (a2 : Int32) (a3 : Int32) (m : x_m) : Option (Int32 × x_m) := (if x_ix (((4000 * a1) + (4 * a3)) + a2) 32000 = true then some (m.2.1 391 (((4000 * a1) + (4 * a3)) + a2).toNatClampNeg, m) else none)
theorem c_MD_valueOf {G : x_G} {ex : Bool} {r : Int32 × x_m}  {a1 : Int32} {a2 : Int32} {a3 : Int32} {m : x_m} (h : F_MD_valueOf a1 a2 a3 m = some r) : x_R G M_MD_valueOf (x_rd 0) ex [.ref 387, .int a1, .int a2, .int a3] x_np (x_hp m) (x_pi r) := by
  unfold F_MD_valueOf at h
  show x_W G M_MD_valueOf (x_rd 0) (x_Q G (x_rd 0) ex (x_pi r)) ex x_np (x_hp m) 0 0 [(0, .ref 387), (1, .int a1), (2, .int a2), (3, .int a3)] [] 0
  refine x_aload_n d_MD_valueOf_0 rfl rfl ?_
  refine x_gC d_MD_valueOf_1 (f_MD_31 rfl) sh_MD hp_MD rfl ?_
  refine x_sipush (v := 4000) d_MD_valueOf_4 (by decide) ?_
  refine x_iload_n d_MD_valueOf_7 rfl rfl ?_
  refine x_imul d_MD_valueOf_8 ?_
  refine x_iconst (v := 4) d_MD_valueOf_9 (by decide) ?_
  refine x_iload_n d_MD_valueOf_10 rfl rfl ?_
  refine x_imul d_MD_valueOf_11 ?_
  refine x_iadd d_MD_valueOf_12 ?_
  refine x_iload_n d_MD_valueOf_13 rfl rfl ?_
  refine x_iadd d_MD_valueOf_14 ?_
  obtain ⟨g_15, h⟩ := x_gd h
  refine x_lI d_MD_valueOf_15 rfl sa_MD_values ha_MD_values g_15 ?_
  cases h
  exact x_ri d_MD_valueOf_16 rfl rfl
def B_MD_value_37   (s0 : Int32) (m : x_m) : Option (Int32 × x_m) := some (s0, m)
theorem b_MD_value_37 {G : x_G} {ex : Bool} {r : Int32 × x_m}   {s0 : Int32} {m : x_m} (h : B_MD_value_37 s0 m = some r) : x_W G M_MD_value (x_rd 2) (x_Q G (x_rd 2) ex (x_pi r)) ex x_np (x_hp m) 0 0 [] [.int s0] 37 := by
  unfold B_MD_value_37 at h
  cases h
  exact x_ri d_MD_value_37 rfl rfl
def B_MD_value_16   (l1 : Int32) (l2 : Int32) (l3 : Int32) (s0 : Int32) (m : x_m) : Option (Int32 × x_m) := (if ((x_wS m 387 1 s0).1 387 1) ≤ 0 then ((F_MD_valueOf l1 l2 l3 (x_wS m 387 1 s0)).bind fun r34 => B_MD_value_37 r34.1 r34.2) else B_MD_value_37 0 (x_wS m 387 1 s0))
theorem b_MD_value_16 {G : x_G} {ex : Bool} {r : Int32 × x_m}   {l1 : Int32} {l2 : Int32} {l3 : Int32} {s0 : Int32} {m : x_m} (h : B_MD_value_16 l1 l2 l3 s0 m = some r) : x_W G M_MD_value (x_rd 2) (x_Q G (x_rd 2) ex (x_pi r)) ex x_np (x_hp m) 0 0 [(0, .ref 387), (1, .int l1), (2, .int l2), (3, .int l3)] [.int s0, .ref 387] 16 := by
  unfold B_MD_value_16 at h
  refine x_pI d_MD_value_16 (f_MD_57 rfl) tb_MD rfl sh_MD hp_MD rfl ⟨rfl, rfl⟩ ?_
  refine x_aload_n d_MD_value_19 rfl rfl ?_
  refine x_gI d_MD_value_20 (f_MD_57 rfl) sh_MD hp_MD rfl ?_
  refine x_if_le (tgt := 30) d_MD_value_23 (by decide) (fun c_ => ?_) (fun c_ => ?_)
  · replace h := x_it h c_
    refine x_aload_n d_MD_value_30 rfl rfl ?_
    refine x_iload_n d_MD_value_31 rfl rfl ?_
    refine x_iload_n d_MD_value_32 rfl rfl ?_
    refine x_iload_n d_MD_value_33 rfl rfl ?_
    obtain ⟨r34, e34, h⟩ := x_bd h
    refine x_cVi (M2 := M_MD_valueOf) (As := [.int l1, .int l2, .int l3]) (st := []) d_MD_value_34 w_1471 k_MD_valueOf (c_MD_valueOf e34) rfl sh_MD hp_MD rfl ⟨Nat.le_of_ble_eq_true rfl, Nat.le_of_ble_eq_true rfl⟩ (Nat.le_of_ble_eq_true rfl) (Nat.le_of_ble_eq_true rfl) rfl ?_
    refine x_sbk [] (lv2 := []) rfl ?_; exact b_MD_value_37 h
  · replace h := x_ie h c_
    refine x_iconst (v := 0) d_MD_value_26 (by decide) ?_
    refine x_goto (tgt := 37) d_MD_value_27 (by decide) ?_
    refine x_sbk [] (lv2 := []) rfl ?_; exact b_MD_value_37 h
def F_MD_value  (a1 : Int32) (a2 : Int32) (a3 : Int32) (m : x_m) : Option (Int32 × x_m) := ((F_MD_isValue a1 a2 a3 m).bind fun r5 => (if r5.1 = 0 then B_MD_value_16 a1 a2 a3 1 r5.2 else B_MD_value_16 a1 a2 a3 0 r5.2))
theorem c_MD_value {G : x_G} {ex : Bool} {r : Int32 × x_m}  {a1 : Int32} {a2 : Int32} {a3 : Int32} {m : x_m} (h : F_MD_value a1 a2 a3 m = some r) : x_R G M_MD_value (x_rd 2) ex [.ref 387, .int a1, .int a2, .int a3] x_np (x_hp m) (x_pi r) := by
  unfold F_MD_value at h
  show x_W G M_MD_value (x_rd 2) (x_Q G (x_rd 2) ex (x_pi r)) ex x_np (x_hp m) 0 0 [(0, .ref 387), (1, .int a1), (2, .int a2), (3, .int a3)] [] 0
  refine x_aload_n d_MD_value_0 rfl rfl ?_
  refine x_aload_n d_MD_value_1 rfl rfl ?_
  refine x_iload_n d_MD_value_2 rfl rfl ?_
  refine x_iload_n d_MD_value_3 rfl rfl ?_
  refine x_iload_n d_MD_value_4 rfl rfl ?_
  obtain ⟨r5, e5, h⟩ := x_bd h
  refine x_cVi (M2 := M_MD_isValue) (As := [.int a1, .int a2, .int a3]) (st := [.ref 387]) d_MD_value_5 w_1467 k_MD_isValue (c_MD_isValue e5) rfl sh_MD hp_MD rfl ⟨Nat.le_of_ble_eq_true rfl, Nat.le_of_ble_eq_true rfl⟩ (Nat.le_of_ble_eq_true rfl) (Nat.le_of_ble_eq_true rfl) rfl ?_
  refine x_if_eq (tgt := 15) d_MD_value_8 (by decide) (fun c_ => ?_) (fun c_ => ?_)
  · replace h := x_it h c_
    refine x_iconst (v := 1) d_MD_value_15 (by decide) ?_
    exact b_MD_value_16 h
  · replace h := x_ie h c_
    refine x_iconst (v := 0) d_MD_value_11 (by decide) ?_
    refine x_goto (tgt := 16) d_MD_value_12 (by decide) ?_
    exact b_MD_value_16 h
def B_MD_rank_179  (K84 : Int32 → Int32 → Int32 → Int32 → Int32 → x_m → Option (Int32 × x_m)) (l1 : Int32) (l2 : Int32) (l3 : Int32) (l6 : Int32) (s0 : Int32) (s1 : Int32) (m : x_m) : Option (Int32 × x_m) := K84 l1 l2 l3 (s1 + s0) (l6 + 1) m
theorem b_MD_rank_179 {G : x_G} {ex : Bool} {r : Int32 × x_m}  {K84 : Int32 → Int32 → Int32 → Int32 → Int32 → x_m → Option (Int32 × x_m)} (hK84 : ∀ (l1 : Int32) (l2 : Int32) (l3 : Int32) (l5 : Int32) (l6 : Int32) (m : x_m), K84 l1 l2 l3 l5 l6 m = some r → x_W G M_MD_rank (x_rd 2) (x_Q G (x_rd 2) ex (x_pi r)) ex x_np (x_hp m) 0 0 [(0, .ref 387), (1, .int l1), (2, .int l2), (3, .int l3), (5, .int l5), (6, .int l6)] [] 84) {l1 : Int32} {l2 : Int32} {l3 : Int32} {l6 : Int32} {s0 : Int32} {s1 : Int32} {m : x_m} (h : B_MD_rank_179 K84 l1 l2 l3 l6 s0 s1 m = some r) : x_W G M_MD_rank (x_rd 2) (x_Q G (x_rd 2) ex (x_pi r)) ex x_np (x_hp m) 0 0 [(0, .ref 387), (1, .int l1), (2, .int l2), (3, .int l3), (6, .int l6)] [.int s0, .int s1] 179 := by
  unfold B_MD_rank_179 at h
  refine x_iadd d_MD_rank_179 ?_
  refine x_istore (lv2 := [(0, .ref 387), (1, .int l1), (2, .int l2), (3, .int l3), (5, .int (s1 + s0)), (6, .int l6)]) d_MD_rank_180 (by decide) rfl ?_
  refine x_iinc (v := l6 + 1) (lv2 := [(0, .ref 387), (1, .int l1), (2, .int l2), (3, .int l3), (5, .int (s1 + s0)), (6, .int (l6 + 1))]) d_MD_rank_182 rfl rfl (by decide) rfl ?_
  refine x_goto (tgt := 84) d_MD_rank_185 (by decide) ?_
  exact hK84 _ _ _ _ _ _ h
def B_MD_rank_178  (K84 : Int32 → Int32 → Int32 → Int32 → Int32 → x_m → Option (Int32 × x_m)) (l1 : Int32) (l2 : Int32) (l3 : Int32) (l6 : Int32) (s0 : Int32) (m : x_m) : Option (Int32 × x_m) := B_MD_rank_179 K84 l1 l2 l3 l6 0 s0 m
theorem b_MD_rank_178 {G : x_G} {ex : Bool} {r : Int32 × x_m}  {K84 : Int32 → Int32 → Int32 → Int32 → Int32 → x_m → Option (Int32 × x_m)} (hK84 : ∀ (l1 : Int32) (l2 : Int32) (l3 : Int32) (l5 : Int32) (l6 : Int32) (m : x_m), K84 l1 l2 l3 l5 l6 m = some r → x_W G M_MD_rank (x_rd 2) (x_Q G (x_rd 2) ex (x_pi r)) ex x_np (x_hp m) 0 0 [(0, .ref 387), (1, .int l1), (2, .int l2), (3, .int l3), (5, .int l5), (6, .int l6)] [] 84) {l1 : Int32} {l2 : Int32} {l3 : Int32} {l6 : Int32} {s0 : Int32} {m : x_m} (h : B_MD_rank_178 K84 l1 l2 l3 l6 s0 m = some r) : x_W G M_MD_rank (x_rd 2) (x_Q G (x_rd 2) ex (x_pi r)) ex x_np (x_hp m) 0 0 [(0, .ref 387), (1, .int l1), (2, .int l2), (3, .int l3), (6, .int l6)] [.int s0] 178 := by
  unfold B_MD_rank_178 at h
  refine x_iconst (v := 0) d_MD_rank_178 (by decide) ?_
  exact b_MD_rank_179 hK84 h
def B_MD_rank_174  (K84 : Int32 → Int32 → Int32 → Int32 → Int32 → x_m → Option (Int32 × x_m)) (l1 : Int32) (l2 : Int32) (l3 : Int32) (l6 : Int32) (s0 : Int32) (m : x_m) : Option (Int32 × x_m) := B_MD_rank_179 K84 l1 l2 l3 l6 1 s0 m
theorem b_MD_rank_174 {G : x_G} {ex : Bool} {r : Int32 × x_m}  {K84 : Int32 → Int32 → Int32 → Int32 → Int32 → x_m → Option (Int32 × x_m)} (hK84 : ∀ (l1 : Int32) (l2 : Int32) (l3 : Int32) (l5 : Int32) (l6 : Int32) (m : x_m), K84 l1 l2 l3 l5 l6 m = some r → x_W G M_MD_rank (x_rd 2) (x_Q G (x_rd 2) ex (x_pi r)) ex x_np (x_hp m) 0 0 [(0, .ref 387), (1, .int l1), (2, .int l2), (3, .int l3), (5, .int l5), (6, .int l6)] [] 84) {l1 : Int32} {l2 : Int32} {l3 : Int32} {l6 : Int32} {s0 : Int32} {m : x_m} (h : B_MD_rank_174 K84 l1 l2 l3 l6 s0 m = some r) : x_W G M_MD_rank (x_rd 2) (x_Q G (x_rd 2) ex (x_pi r)) ex x_np (x_hp m) 0 0 [(0, .ref 387), (1, .int l1), (2, .int l2), (3, .int l3), (6, .int l6)] [.int s0] 174 := by
  unfold B_MD_rank_174 at h
  refine x_iconst (v := 1) d_MD_rank_174 (by decide) ?_
  refine x_goto (tgt := 179) d_MD_rank_175 (by decide) ?_
  exact b_MD_rank_179 hK84 h
def B_MD_rank_137  (K84 : Int32 → Int32 → Int32 → Int32 → Int32 → x_m → Option (Int32 × x_m)) (K101 : Int32 → Int32 → Int32 → Int32 → Int32 → Int32 → Int32 → x_m → Option (Int32 × x_m)) (l1 : Int32) (l2 : Int32) (l3 : Int32) (l5 : Int32) (l6 : Int32) (l8 : Int32) (s0 : Int32) (m : x_m) : Option (Int32 × x_m) := K101 l1 l2 l3 l5 l6 s0 (l8 + 1) m
theorem b_MD_rank_137 {G : x_G} {ex : Bool} {r : Int32 × x_m}  {K84 : Int32 → Int32 → Int32 → Int32 → Int32 → x_m → Option (Int32 × x_m)} (hK84 : ∀ (l1 : Int32) (l2 : Int32) (l3 : Int32) (l5 : Int32) (l6 : Int32) (m : x_m), K84 l1 l2 l3 l5 l6 m = some r → x_W G M_MD_rank (x_rd 2) (x_Q G (x_rd 2) ex (x_pi r)) ex x_np (x_hp m) 0 0 [(0, .ref 387), (1, .int l1), (2, .int l2), (3, .int l3), (5, .int l5), (6, .int l6)] [] 84) {K101 : Int32 → Int32 → Int32 → Int32 → Int32 → Int32 → Int32 → x_m → Option (Int32 × x_m)} (hK101 : ∀ (l1 : Int32) (l2 : Int32) (l3 : Int32) (l5 : Int32) (l6 : Int32) (l7 : Int32) (l8 : Int32) (m : x_m), K101 l1 l2 l3 l5 l6 l7 l8 m = some r → x_W G M_MD_rank (x_rd 2) (x_Q G (x_rd 2) ex (x_pi r)) ex x_np (x_hp m) 0 0 [(0, .ref 387), (1, .int l1), (2, .int l2), (3, .int l3), (5, .int l5), (6, .int l6), (7, .int l7), (8, .int l8)] [] 101) {l1 : Int32} {l2 : Int32} {l3 : Int32} {l5 : Int32} {l6 : Int32} {l8 : Int32} {s0 : Int32} {m : x_m} (h : B_MD_rank_137 K84 K101 l1 l2 l3 l5 l6 l8 s0 m = some r) : x_W G M_MD_rank (x_rd 2) (x_Q G (x_rd 2) ex (x_pi r)) ex x_np (x_hp m) 0 0 [(0, .ref 387), (1, .int l1), (2, .int l2), (3, .int l3), (5, .int l5), (6, .int l6), (8, .int l8)] [.int s0] 137 := by
  unfold B_MD_rank_137 at h
  refine x_istore (lv2 := [(0, .ref 387), (1, .int l1), (2, .int l2), (3, .int l3), (5, .int l5), (6, .int l6), (7, .int s0), (8, .int l8)]) d_MD_rank_137 (by decide) rfl ?_
  refine x_iinc (v := l8 + 1) (lv2 := [(0, .ref 387), (1, .int l1), (2, .int l2), (3, .int l3), (5, .int l5), (6, .int l6), (7, .int s0), (8, .int (l8 + 1))]) d_MD_rank_139 rfl rfl (by decide) rfl ?_
  refine x_goto (tgt := 101) d_MD_rank_142 (by decide) ?_
  exact hK101 _ _ _ _ _ _ _ _ h
def B_MD_rank_136  (K84 : Int32 → Int32 → Int32 → Int32 → Int32 → x_m → Option (Int32 × x_m)) (K101 : Int32 → Int32 → Int32 → Int32 → Int32 → Int32 → Int32 → x_m → Option (Int32 × x_m)) (l1 : Int32) (l2 : Int32) (l3 : Int32) (l5 : Int32) (l6 : Int32) (l8 : Int32) (m : x_m) : Option (Int32 × x_m) := B_MD_rank_137 K84 K101 l1 l2 l3 l5 l6 l8 0 m
theorem b_MD_rank_136 {G : x_G} {ex : Bool} {r : Int32 × x_m}  {K84 : Int32 → Int32 → Int32 → Int32 → Int32 → x_m → Option (Int32 × x_m)} (hK84 : ∀ (l1 : Int32) (l2 : Int32) (l3 : Int32) (l5 : Int32) (l6 : Int32) (m : x_m), K84 l1 l2 l3 l5 l6 m = some r → x_W G M_MD_rank (x_rd 2) (x_Q G (x_rd 2) ex (x_pi r)) ex x_np (x_hp m) 0 0 [(0, .ref 387), (1, .int l1), (2, .int l2), (3, .int l3), (5, .int l5), (6, .int l6)] [] 84) {K101 : Int32 → Int32 → Int32 → Int32 → Int32 → Int32 → Int32 → x_m → Option (Int32 × x_m)} (hK101 : ∀ (l1 : Int32) (l2 : Int32) (l3 : Int32) (l5 : Int32) (l6 : Int32) (l7 : Int32) (l8 : Int32) (m : x_m), K101 l1 l2 l3 l5 l6 l7 l8 m = some r → x_W G M_MD_rank (x_rd 2) (x_Q G (x_rd 2) ex (x_pi r)) ex x_np (x_hp m) 0 0 [(0, .ref 387), (1, .int l1), (2, .int l2), (3, .int l3), (5, .int l5), (6, .int l6), (7, .int l7), (8, .int l8)] [] 101) {l1 : Int32} {l2 : Int32} {l3 : Int32} {l5 : Int32} {l6 : Int32} {l8 : Int32} {m : x_m} (h : B_MD_rank_136 K84 K101 l1 l2 l3 l5 l6 l8 m = some r) : x_W G M_MD_rank (x_rd 2) (x_Q G (x_rd 2) ex (x_pi r)) ex x_np (x_hp m) 0 0 [(0, .ref 387), (1, .int l1), (2, .int l2), (3, .int l3), (5, .int l5), (6, .int l6), (8, .int l8)] [] 136 := by
  unfold B_MD_rank_136 at h
  refine x_iconst (v := 0) d_MD_rank_136 (by decide) ?_
  exact b_MD_rank_137 hK84 hK101 h
def B_MD_rank_101  (K84 : Int32 → Int32 → Int32 → Int32 → Int32 → x_m → Option (Int32 × x_m)) : Nat → Int32 → Int32 → Int32 → Int32 → Int32 → Int32 → Int32 → x_m → Option (Int32 × x_m)
  | 0, _, _, _, _, _, _, _, _ => none
  | f_ + 1, l1, l2, l3, l5, l6, l7, l8, m => (if l6 ≤ l8 then (if l7 = 0 then B_MD_rank_178 K84 l1 l2 l3 l6 l5 m else (if l3 < 0 then B_MD_rank_174 K84 l1 l2 l3 l6 l5 m else ((F_MD_valueOf l1 l2 l6 m).bind fun r161 => ((F_MD_valueOf l1 l2 l3 r161.2).bind fun r168 => (if r168.1 ≤ r161.1 then B_MD_rank_178 K84 l1 l2 l3 l6 l5 r168.2 else B_MD_rank_174 K84 l1 l2 l3 l6 l5 r168.2))))) else (if l7 = 0 then B_MD_rank_136 K84 (B_MD_rank_101 K84 f_) l1 l2 l3 l5 l6 l8 m else ((F_MD_valueOf l1 l2 l8 m).bind fun r118 => ((F_MD_valueOf l1 l2 l6 r118.2).bind fun r126 => (if r118.1 = r126.1 then B_MD_rank_136 K84 (B_MD_rank_101 K84 f_) l1 l2 l3 l5 l6 l8 r126.2 else B_MD_rank_137 K84 (B_MD_rank_101 K84 f_) l1 l2 l3 l5 l6 l8 1 r126.2)))))
theorem b_MD_rank_101 {G : x_G} {ex : Bool} {r : Int32 × x_m}  {K84 : Int32 → Int32 → Int32 → Int32 → Int32 → x_m → Option (Int32 × x_m)} (hK84 : ∀ (l1 : Int32) (l2 : Int32) (l3 : Int32) (l5 : Int32) (l6 : Int32) (m : x_m), K84 l1 l2 l3 l5 l6 m = some r → x_W G M_MD_rank (x_rd 2) (x_Q G (x_rd 2) ex (x_pi r)) ex x_np (x_hp m) 0 0 [(0, .ref 387), (1, .int l1), (2, .int l2), (3, .int l3), (5, .int l5), (6, .int l6)] [] 84) : ∀ (f_ : Nat) (l1 : Int32) (l2 : Int32) (l3 : Int32) (l5 : Int32) (l6 : Int32) (l7 : Int32) (l8 : Int32) (m : x_m), B_MD_rank_101 K84 f_ l1 l2 l3 l5 l6 l7 l8 m = some r → x_W G M_MD_rank (x_rd 2) (x_Q G (x_rd 2) ex (x_pi r)) ex x_np (x_hp m) 0 0 [(0, .ref 387), (1, .int l1), (2, .int l2), (3, .int l3), (5, .int l5), (6, .int l6), (7, .int l7), (8, .int l8)] [] 101 := by
  intro f_
  induction f_ with
  | zero => intro l1 l2 l3 l5 l6 l7 l8 m h; exact nomatch h
  | succ f_ ih =>
    intro l1 l2 l3 l5 l6 l7 l8 m h
    rw [B_MD_rank_101] at h
    have hK101 := ih
    refine x_iload d_MD_rank_101 rfl ?_
    refine x_iload d_MD_rank_103 rfl ?_
    refine x_icmp_ge (tgt := 145) d_MD_rank_105 (by decide) (fun c_ => ?_) (fun c_ => ?_)
    · replace h := x_it h c_
      refine x_iload d_MD_rank_145 rfl ?_
      refine x_iload d_MD_rank_147 rfl ?_
      refine x_if_eq (tgt := 178) d_MD_rank_149 (by decide) (fun c_ => ?_) (fun c_ => ?_)
      · replace h := x_it h c_
        refine x_sbk [0, 1, 2, 3, 5] (lv2 := [(0, .ref 387), (1, .int l1), (2, .int l2), (3, .int l3), (6, .int l6)]) rfl ?_; exact b_MD_rank_178 hK84 h
      · replace h := x_ie h c_
        refine x_iload_n d_MD_rank_152 rfl rfl ?_
        refine x_if_lt (tgt := 174) d_MD_rank_153 (by decide) (fun c_ => ?_) (fun c_ => ?_)
        · replace h := x_it h c_
          refine x_sbk [0, 1, 2, 3, 5] (lv2 := [(0, .ref 387), (1, .int l1), (2, .int l2), (3, .int l3), (6, .int l6)]) rfl ?_; exact b_MD_rank_174 hK84 h
        · replace h := x_ie h c_
          refine x_aload_n d_MD_rank_156 rfl rfl ?_
          refine x_iload_n d_MD_rank_157 rfl rfl ?_
          refine x_iload_n d_MD_rank_158 rfl rfl ?_
          refine x_iload d_MD_rank_159 rfl ?_
          obtain ⟨r161, e161, h⟩ := x_bd h
          refine x_cVi (M2 := M_MD_valueOf) (As := [.int l1, .int l2, .int l6]) (st := [.int l5]) d_MD_rank_161 w_1471 k_MD_valueOf (c_MD_valueOf e161) rfl sh_MD hp_MD rfl ⟨Nat.le_of_ble_eq_true rfl, Nat.le_of_ble_eq_true rfl⟩ (Nat.le_of_ble_eq_true rfl) (Nat.le_of_ble_eq_true rfl) rfl ?_
          refine x_aload_n d_MD_rank_164 rfl rfl ?_
          refine x_iload_n d_MD_rank_165 rfl rfl ?_
          refine x_iload_n d_MD_rank_166 rfl rfl ?_
          refine x_iload_n d_MD_rank_167 rfl rfl ?_
          obtain ⟨r168, e168, h⟩ := x_bd h
          refine x_cVi (M2 := M_MD_valueOf) (As := [.int l1, .int l2, .int l3]) (st := [.int r161.1, .int l5]) d_MD_rank_168 w_1471 k_MD_valueOf (c_MD_valueOf e168) rfl sh_MD hp_MD rfl ⟨Nat.le_of_ble_eq_true rfl, Nat.le_of_ble_eq_true rfl⟩ (Nat.le_of_ble_eq_true rfl) (Nat.le_of_ble_eq_true rfl) rfl ?_
          refine x_icmp_ge (tgt := 178) d_MD_rank_171 (by decide) (fun c_ => ?_) (fun c_ => ?_)
          · replace h := x_it h c_
            refine x_sbk [0, 1, 2, 3, 5] (lv2 := [(0, .ref 387), (1, .int l1), (2, .int l2), (3, .int l3), (6, .int l6)]) rfl ?_; exact b_MD_rank_178 hK84 h
          · replace h := x_ie h c_
            refine x_sbk [0, 1, 2, 3, 5] (lv2 := [(0, .ref 387), (1, .int l1), (2, .int l2), (3, .int l3), (6, .int l6)]) rfl ?_; exact b_MD_rank_174 hK84 h
    · replace h := x_ie h c_
      refine x_iload d_MD_rank_108 rfl ?_
      refine x_if_eq (tgt := 136) d_MD_rank_110 (by decide) (fun c_ => ?_) (fun c_ => ?_)
      · replace h := x_it h c_
        refine x_sbk [0, 1, 2, 3, 4, 5, 7] (lv2 := [(0, .ref 387), (1, .int l1), (2, .int l2), (3, .int l3), (5, .int l5), (6, .int l6), (8, .int l8)]) rfl ?_; exact b_MD_rank_136 hK84 hK101 h
      · replace h := x_ie h c_
        refine x_aload_n d_MD_rank_113 rfl rfl ?_
        refine x_iload_n d_MD_rank_114 rfl rfl ?_
        refine x_iload_n d_MD_rank_115 rfl rfl ?_
        refine x_iload d_MD_rank_116 rfl ?_
        obtain ⟨r118, e118, h⟩ := x_bd h
        refine x_cVi (M2 := M_MD_valueOf) (As := [.int l1, .int l2, .int l8]) (st := []) d_MD_rank_118 w_1471 k_MD_valueOf (c_MD_valueOf e118) rfl sh_MD hp_MD rfl ⟨Nat.le_of_ble_eq_true rfl, Nat.le_of_ble_eq_true rfl⟩ (Nat.le_of_ble_eq_true rfl) (Nat.le_of_ble_eq_true rfl) rfl ?_
        refine x_aload_n d_MD_rank_121 rfl rfl ?_
        refine x_iload_n d_MD_rank_122 rfl rfl ?_
        refine x_iload_n d_MD_rank_123 rfl rfl ?_
        refine x_iload d_MD_rank_124 rfl ?_
        obtain ⟨r126, e126, h⟩ := x_bd h
        refine x_cVi (M2 := M_MD_valueOf) (As := [.int l1, .int l2, .int l6]) (st := [.int r118.1]) d_MD_rank_126 w_1471 k_MD_valueOf (c_MD_valueOf e126) rfl sh_MD hp_MD rfl ⟨Nat.le_of_ble_eq_true rfl, Nat.le_of_ble_eq_true rfl⟩ (Nat.le_of_ble_eq_true rfl) (Nat.le_of_ble_eq_true rfl) rfl ?_
        refine x_icmp_eq (tgt := 136) d_MD_rank_129 (by decide) (fun c_ => ?_) (fun c_ => ?_)
        · replace h := x_it h c_
          refine x_sbk [0, 1, 2, 3, 4, 5, 7] (lv2 := [(0, .ref 387), (1, .int l1), (2, .int l2), (3, .int l3), (5, .int l5), (6, .int l6), (8, .int l8)]) rfl ?_; exact b_MD_rank_136 hK84 hK101 h
        · replace h := x_ie h c_
          refine x_iconst (v := 1) d_MD_rank_132 (by decide) ?_
          refine x_goto (tgt := 137) d_MD_rank_133 (by decide) ?_
          refine x_sbk [0, 1, 2, 3, 4, 5, 7] (lv2 := [(0, .ref 387), (1, .int l1), (2, .int l2), (3, .int l3), (5, .int l5), (6, .int l6), (8, .int l8)]) rfl ?_; exact b_MD_rank_137 hK84 hK101 h
def B_MD_rank_84   : Nat → Int32 → Int32 → Int32 → Int32 → Int32 → x_m → Option (Int32 × x_m)
  | 0, _, _, _, _, _, _ => none
  | f_ + 1, l1, l2, l3, l5, l6, m => (if x_ix l1 8 = true then (if (m.2.1 390 l1.toNatClampNeg) ≤ l6 then some (l5, m) else B_MD_rank_101 (B_MD_rank_84 f_) x_fu l1 l2 l3 l5 l6 1 0 m) else none)
theorem b_MD_rank_84 {G : x_G} {ex : Bool} {r : Int32 × x_m}   : ∀ (f_ : Nat) (l1 : Int32) (l2 : Int32) (l3 : Int32) (l5 : Int32) (l6 : Int32) (m : x_m), B_MD_rank_84 f_ l1 l2 l3 l5 l6 m = some r → x_W G M_MD_rank (x_rd 2) (x_Q G (x_rd 2) ex (x_pi r)) ex x_np (x_hp m) 0 0 [(0, .ref 387), (1, .int l1), (2, .int l2), (3, .int l3), (5, .int l5), (6, .int l6)] [] 84 := by
  intro f_
  induction f_ with
  | zero => intro l1 l2 l3 l5 l6 m h; exact nomatch h
  | succ f_ ih =>
    intro l1 l2 l3 l5 l6 m h
    rw [B_MD_rank_84] at h
    have hK84 := ih
    refine x_iload d_MD_rank_84 rfl ?_
    refine x_aload_n d_MD_rank_86 rfl rfl ?_
    refine x_gC d_MD_rank_87 (f_MD_28 rfl) sh_MD hp_MD rfl ?_
    refine x_iload_n d_MD_rank_90 rfl rfl ?_
    obtain ⟨g_91, h⟩ := x_gd h
    refine x_lI d_MD_rank_91 rfl sa_MD_members ha_MD_members g_91 ?_
    refine x_icmp_ge (tgt := 188) d_MD_rank_92 (by decide) (fun c_ => ?_) (fun c_ => ?_)
    · replace h := x_it h c_
      refine x_iload d_MD_rank_188 rfl ?_
      cases h
      exact x_ri d_MD_rank_190 rfl rfl
    · replace h := x_ie h c_
      refine x_iconst (v := 1) d_MD_rank_95 (by decide) ?_
      refine x_istore (lv2 := [(0, .ref 387), (1, .int l1), (2, .int l2), (3, .int l3), (5, .int l5), (6, .int l6), (7, .int 1)]) d_MD_rank_96 (by decide) rfl ?_
      refine x_iconst (v := 0) d_MD_rank_98 (by decide) ?_
      refine x_istore (lv2 := [(0, .ref 387), (1, .int l1), (2, .int l2), (3, .int l3), (5, .int l5), (6, .int l6), (7, .int 1), (8, .int 0)]) d_MD_rank_99 (by decide) rfl ?_
      exact b_MD_rank_101 hK84 _ _ _ _ _ _ _ _ _ h
def B_MD_rank_66   (l1 : Int32) (l2 : Int32) (l3 : Int32) (s0 : Int32) (m : x_m) : Option (Int32 × x_m) := (if ((x_wS m 387 1 s0).1 387 1) ≤ 0 then B_MD_rank_84 x_fu l1 l2 l3 0 0 (x_wS m 387 1 s0) else some (0, x_wS m 387 1 s0))
theorem b_MD_rank_66 {G : x_G} {ex : Bool} {r : Int32 × x_m}   {l1 : Int32} {l2 : Int32} {l3 : Int32} {s0 : Int32} {m : x_m} (h : B_MD_rank_66 l1 l2 l3 s0 m = some r) : x_W G M_MD_rank (x_rd 2) (x_Q G (x_rd 2) ex (x_pi r)) ex x_np (x_hp m) 0 0 [(0, .ref 387), (1, .int l1), (2, .int l2), (3, .int l3)] [.int s0, .ref 387] 66 := by
  unfold B_MD_rank_66 at h
  refine x_pI d_MD_rank_66 (f_MD_57 rfl) tb_MD rfl sh_MD hp_MD rfl ⟨rfl, rfl⟩ ?_
  refine x_aload_n d_MD_rank_69 rfl rfl ?_
  refine x_gI d_MD_rank_70 (f_MD_57 rfl) sh_MD hp_MD rfl ?_
  refine x_if_le (tgt := 78) d_MD_rank_73 (by decide) (fun c_ => ?_) (fun c_ => ?_)
  · replace h := x_it h c_
    refine x_iconst (v := 0) d_MD_rank_78 (by decide) ?_
    refine x_istore (lv2 := [(0, .ref 387), (1, .int l1), (2, .int l2), (3, .int l3), (5, .int 0)]) d_MD_rank_79 (by decide) rfl ?_
    refine x_iconst (v := 0) d_MD_rank_81 (by decide) ?_
    refine x_istore (lv2 := [(0, .ref 387), (1, .int l1), (2, .int l2), (3, .int l3), (5, .int 0), (6, .int 0)]) d_MD_rank_82 (by decide) rfl ?_
    exact b_MD_rank_84 _ _ _ _ _ _ _ h
  · replace h := x_ie h c_
    refine x_iconst (v := 0) d_MD_rank_76 (by decide) ?_
    cases h
    exact x_ri d_MD_rank_77 rfl rfl
def B_MD_rank_42   (l1 : Int32) (l2 : Int32) (l3 : Int32) (s0 : Int32) (m : x_m) : Option (Int32 × x_m) := (if s0 = 0 then B_MD_rank_66 l1 l2 l3 1 m else (if (m.1 387 2) = 0 then B_MD_rank_66 l1 l2 l3 2 m else B_MD_rank_66 l1 l2 l3 0 m))
theorem b_MD_rank_42 {G : x_G} {ex : Bool} {r : Int32 × x_m}   {l1 : Int32} {l2 : Int32} {l3 : Int32} {s0 : Int32} {m : x_m} (h : B_MD_rank_42 l1 l2 l3 s0 m = some r) : x_W G M_MD_rank (x_rd 2) (x_Q G (x_rd 2) ex (x_pi r)) ex x_np (x_hp m) 0 0 [(0, .ref 387), (1, .int l1), (2, .int l2), (3, .int l3)] [.int s0] 42 := by
  unfold B_MD_rank_42 at h
  refine x_istore (lv2 := [(0, .ref 387), (1, .int l1), (2, .int l2), (3, .int l3), (4, .int s0)]) d_MD_rank_42 (by decide) rfl ?_
  refine x_aload_n d_MD_rank_44 rfl rfl ?_
  refine x_iload d_MD_rank_45 rfl ?_
  refine x_if_ne (tgt := 54) d_MD_rank_47 (by decide) (fun c_ => ?_) (fun c_ => ?_)
  · replace h := x_ie h c_
    refine x_aload_n d_MD_rank_54 rfl rfl ?_
    refine x_gI d_MD_rank_55 (f_MD_284 rfl) sh_MD hp_MD rfl ?_
    refine x_if_ne (tgt := 65) d_MD_rank_58 (by decide) (fun c_ => ?_) (fun c_ => ?_)
    · replace h := x_ie h c_
      refine x_iconst (v := 0) d_MD_rank_65 (by decide) ?_
      refine x_sbk [0, 1, 2, 3] (lv2 := [(0, .ref 387), (1, .int l1), (2, .int l2), (3, .int l3)]) rfl ?_; exact b_MD_rank_66 h
    · replace h := x_it h c_
      refine x_iconst (v := 2) d_MD_rank_61 (by decide) ?_
      refine x_goto (tgt := 66) d_MD_rank_62 (by decide) ?_
      refine x_sbk [0, 1, 2, 3] (lv2 := [(0, .ref 387), (1, .int l1), (2, .int l2), (3, .int l3)]) rfl ?_; exact b_MD_rank_66 h
  · replace h := x_it h c_
    refine x_iconst (v := 1) d_MD_rank_50 (by decide) ?_
    refine x_goto (tgt := 66) d_MD_rank_51 (by decide) ?_
    refine x_sbk [0, 1, 2, 3] (lv2 := [(0, .ref 387), (1, .int l1), (2, .int l2), (3, .int l3)]) rfl ?_; exact b_MD_rank_66 h
def B_MD_rank_41   (l1 : Int32) (l2 : Int32) (l3 : Int32) (m : x_m) : Option (Int32 × x_m) := B_MD_rank_42 l1 l2 l3 0 m
theorem b_MD_rank_41 {G : x_G} {ex : Bool} {r : Int32 × x_m}   {l1 : Int32} {l2 : Int32} {l3 : Int32} {m : x_m} (h : B_MD_rank_41 l1 l2 l3 m = some r) : x_W G M_MD_rank (x_rd 2) (x_Q G (x_rd 2) ex (x_pi r)) ex x_np (x_hp m) 0 0 [(0, .ref 387), (1, .int l1), (2, .int l2), (3, .int l3)] [] 41 := by
  unfold B_MD_rank_41 at h
  refine x_iconst (v := 0) d_MD_rank_41 (by decide) ?_
  exact b_MD_rank_42 h
def B_MD_rank_37   (l1 : Int32) (l2 : Int32) (l3 : Int32) (m : x_m) : Option (Int32 × x_m) := B_MD_rank_42 l1 l2 l3 1 m
theorem b_MD_rank_37 {G : x_G} {ex : Bool} {r : Int32 × x_m}   {l1 : Int32} {l2 : Int32} {l3 : Int32} {m : x_m} (h : B_MD_rank_37 l1 l2 l3 m = some r) : x_W G M_MD_rank (x_rd 2) (x_Q G (x_rd 2) ex (x_pi r)) ex x_np (x_hp m) 0 0 [(0, .ref 387), (1, .int l1), (2, .int l2), (3, .int l3)] [] 37 := by
  unfold B_MD_rank_37 at h
  refine x_iconst (v := 1) d_MD_rank_37 (by decide) ?_
  refine x_goto (tgt := 42) d_MD_rank_38 (by decide) ?_
  exact b_MD_rank_42 h
def F_MD_rank  (a1 : Int32) (a2 : Int32) (a3 : Int32) (m : x_m) : Option (Int32 × x_m) := ((F_MD_isDimension a1 m).bind fun r2 => (if r2.1 = 0 then B_MD_rank_41 a1 a2 a3 r2.2 else (if a2 < 0 then B_MD_rank_41 a1 a2 a3 r2.2 else (if x_ix a1 8 = true then (if (r2.2.2.1 389 a1.toNatClampNeg) ≤ a2 then B_MD_rank_41 a1 a2 a3 r2.2 else (if a3 = ((-1)) then B_MD_rank_37 a1 a2 a3 r2.2 else ((F_MD_isValue a1 a2 a3 r2.2).bind fun r31 => (if r31.1 = 0 then B_MD_rank_41 a1 a2 a3 r31.2 else B_MD_rank_37 a1 a2 a3 r31.2)))) else none))))
theorem c_MD_rank {G : x_G} {ex : Bool} {r : Int32 × x_m}  {a1 : Int32} {a2 : Int32} {a3 : Int32} {m : x_m} (h : F_MD_rank a1 a2 a3 m = some r) : x_R G M_MD_rank (x_rd 2) ex [.ref 387, .int a1, .int a2, .int a3] x_np (x_hp m) (x_pi r) := by
  unfold F_MD_rank at h
  show x_W G M_MD_rank (x_rd 2) (x_Q G (x_rd 2) ex (x_pi r)) ex x_np (x_hp m) 0 0 [(0, .ref 387), (1, .int a1), (2, .int a2), (3, .int a3)] [] 0
  refine x_aload_n d_MD_rank_0 rfl rfl ?_
  refine x_iload_n d_MD_rank_1 rfl rfl ?_
  obtain ⟨r2, e2, h⟩ := x_bd h
  refine x_cVi (M2 := M_MD_isDimension) (As := [.int a1]) (st := []) d_MD_rank_2 w_1459 k_MD_isDimension (c_MD_isDimension e2) rfl sh_MD hp_MD rfl ⟨Nat.le_of_ble_eq_true rfl, Nat.le_of_ble_eq_true rfl⟩ (Nat.le_of_ble_eq_true rfl) (Nat.le_of_ble_eq_true rfl) rfl ?_
  refine x_if_eq (tgt := 41) d_MD_rank_5 (by decide) (fun c_ => ?_) (fun c_ => ?_)
  · replace h := x_it h c_
    exact b_MD_rank_41 h
  · replace h := x_ie h c_
    refine x_iload_n d_MD_rank_8 rfl rfl ?_
    refine x_if_lt (tgt := 41) d_MD_rank_9 (by decide) (fun c_ => ?_) (fun c_ => ?_)
    · replace h := x_it h c_
      exact b_MD_rank_41 h
    · replace h := x_ie h c_
      refine x_iload_n d_MD_rank_12 rfl rfl ?_
      refine x_aload_n d_MD_rank_13 rfl rfl ?_
      refine x_gC d_MD_rank_14 (f_MD_24 rfl) sh_MD hp_MD rfl ?_
      refine x_iload_n d_MD_rank_17 rfl rfl ?_
      obtain ⟨g_18, h⟩ := x_gd h
      refine x_lI d_MD_rank_18 rfl sa_MD_levels ha_MD_levels g_18 ?_
      refine x_icmp_ge (tgt := 41) d_MD_rank_19 (by decide) (fun c_ => ?_) (fun c_ => ?_)
      · replace h := x_it h c_
        exact b_MD_rank_41 h
      · replace h := x_ie h c_
        refine x_iload_n d_MD_rank_22 rfl rfl ?_
        refine x_iconst (v := (-1)) d_MD_rank_23 (by decide) ?_
        refine x_icmp_eq (tgt := 37) d_MD_rank_24 (by decide) (fun c_ => ?_) (fun c_ => ?_)
        · replace h := x_it h c_
          exact b_MD_rank_37 h
        · replace h := x_ie h c_
          refine x_aload_n d_MD_rank_27 rfl rfl ?_
          refine x_iload_n d_MD_rank_28 rfl rfl ?_
          refine x_iload_n d_MD_rank_29 rfl rfl ?_
          refine x_iload_n d_MD_rank_30 rfl rfl ?_
          obtain ⟨r31, e31, h⟩ := x_bd h
          refine x_cVi (M2 := M_MD_isValue) (As := [.int a1, .int a2, .int a3]) (st := []) d_MD_rank_31 w_1467 k_MD_isValue (c_MD_isValue e31) rfl sh_MD hp_MD rfl ⟨Nat.le_of_ble_eq_true rfl, Nat.le_of_ble_eq_true rfl⟩ (Nat.le_of_ble_eq_true rfl) (Nat.le_of_ble_eq_true rfl) rfl ?_
          refine x_if_eq (tgt := 41) d_MD_rank_34 (by decide) (fun c_ => ?_) (fun c_ => ?_)
          · replace h := x_it h c_
            exact b_MD_rank_41 h
          · replace h := x_ie h c_
            exact b_MD_rank_37 h
def B_MD_find_42   : Nat → Int32 → Int32 → Int32 → x_m → Option (Int32 × x_m)
  | 0, _, _, _, _ => none
  | f_ + 1, l1, l2, l4, m => (if x_ix l1 8 = true then (if (m.2.1 390 l1.toNatClampNeg) ≤ l4 then some ((-1), m) else ((F_MD_valueOf l1 0 l4 m).bind fun r58 => (if r58.1 = l2 then some (l4, r58.2) else (B_MD_find_42 f_) l1 l2 (l4 + 1) r58.2))) else none)
theorem b_MD_find_42 {G : x_G} {ex : Bool} {r : Int32 × x_m}   : ∀ (f_ : Nat) (l1 : Int32) (l2 : Int32) (l4 : Int32) (m : x_m), B_MD_find_42 f_ l1 l2 l4 m = some r → x_W G M_MD_find (x_rd 1) (x_Q G (x_rd 1) ex (x_pi r)) ex x_np (x_hp m) 0 0 [(0, .ref 387), (1, .int l1), (2, .int l2), (4, .int l4)] [] 42 := by
  intro f_
  induction f_ with
  | zero => intro l1 l2 l4 m h; exact nomatch h
  | succ f_ ih =>
    intro l1 l2 l4 m h
    rw [B_MD_find_42] at h
    have hK42 := ih
    refine x_iload d_MD_find_42 rfl ?_
    refine x_aload_n d_MD_find_44 rfl rfl ?_
    refine x_gC d_MD_find_45 (f_MD_28 rfl) sh_MD hp_MD rfl ?_
    refine x_iload_n d_MD_find_48 rfl rfl ?_
    obtain ⟨g_49, h⟩ := x_gd h
    refine x_lI d_MD_find_49 rfl sa_MD_members ha_MD_members g_49 ?_
    refine x_icmp_ge (tgt := 74) d_MD_find_50 (by decide) (fun c_ => ?_) (fun c_ => ?_)
    · replace h := x_it h c_
      refine x_iconst (v := (-1)) d_MD_find_74 (by decide) ?_
      cases h
      exact x_ri d_MD_find_75 rfl rfl
    · replace h := x_ie h c_
      refine x_aload_n d_MD_find_53 rfl rfl ?_
      refine x_iload_n d_MD_find_54 rfl rfl ?_
      refine x_iconst (v := 0) d_MD_find_55 (by decide) ?_
      refine x_iload d_MD_find_56 rfl ?_
      obtain ⟨r58, e58, h⟩ := x_bd h
      refine x_cVi (M2 := M_MD_valueOf) (As := [.int l1, .int 0, .int l4]) (st := []) d_MD_find_58 w_1471 k_MD_valueOf (c_MD_valueOf e58) rfl sh_MD hp_MD rfl ⟨Nat.le_of_ble_eq_true rfl, Nat.le_of_ble_eq_true rfl⟩ (Nat.le_of_ble_eq_true rfl) (Nat.le_of_ble_eq_true rfl) rfl ?_
      refine x_iload_n d_MD_find_61 rfl rfl ?_
      refine x_icmp_ne (tgt := 68) d_MD_find_62 (by decide) (fun c_ => ?_) (fun c_ => ?_)
      · replace h := x_ie h c_
        refine x_iinc (v := l4 + 1) (lv2 := [(0, .ref 387), (1, .int l1), (2, .int l2), (4, .int (l4 + 1))]) d_MD_find_68 rfl rfl (by decide) rfl ?_
        refine x_goto (tgt := 42) d_MD_find_71 (by decide) ?_
        exact hK42 _ _ _ _ h
      · replace h := x_it h c_
        refine x_iload d_MD_find_65 rfl ?_
        cases h
        exact x_ri d_MD_find_67 rfl rfl
def B_MD_find_27   (l1 : Int32) (l2 : Int32) (s0 : Int32) (m : x_m) : Option (Int32 × x_m) := (if ((x_wS m 387 1 s0).1 387 1) ≤ 0 then B_MD_find_42 x_fu l1 l2 0 (x_wS m 387 1 s0) else some (0, x_wS m 387 1 s0))
theorem b_MD_find_27 {G : x_G} {ex : Bool} {r : Int32 × x_m}   {l1 : Int32} {l2 : Int32} {s0 : Int32} {m : x_m} (h : B_MD_find_27 l1 l2 s0 m = some r) : x_W G M_MD_find (x_rd 1) (x_Q G (x_rd 1) ex (x_pi r)) ex x_np (x_hp m) 0 0 [(0, .ref 387), (1, .int l1), (2, .int l2)] [.int s0, .ref 387] 27 := by
  unfold B_MD_find_27 at h
  refine x_pI d_MD_find_27 (f_MD_57 rfl) tb_MD rfl sh_MD hp_MD rfl ⟨rfl, rfl⟩ ?_
  refine x_aload_n d_MD_find_30 rfl rfl ?_
  refine x_gI d_MD_find_31 (f_MD_57 rfl) sh_MD hp_MD rfl ?_
  refine x_if_le (tgt := 39) d_MD_find_34 (by decide) (fun c_ => ?_) (fun c_ => ?_)
  · replace h := x_it h c_
    refine x_iconst (v := 0) d_MD_find_39 (by decide) ?_
    refine x_istore (lv2 := [(0, .ref 387), (1, .int l1), (2, .int l2), (4, .int 0)]) d_MD_find_40 (by decide) rfl ?_
    exact b_MD_find_42 _ _ _ _ _ h
  · replace h := x_ie h c_
    refine x_iconst (v := 0) d_MD_find_37 (by decide) ?_
    cases h
    exact x_ri d_MD_find_38 rfl rfl
def F_MD_find  (a1 : Int32) (a2 : Int32) (m : x_m) : Option (Int32 × x_m) := ((F_MD_isDimension a1 m).bind fun r2 => (if r2.1 = 0 then B_MD_find_27 a1 a2 1 r2.2 else (if (r2.2.1 387 2) = 0 then B_MD_find_27 a1 a2 2 r2.2 else B_MD_find_27 a1 a2 0 r2.2)))
theorem c_MD_find {G : x_G} {ex : Bool} {r : Int32 × x_m}  {a1 : Int32} {a2 : Int32} {m : x_m} (h : F_MD_find a1 a2 m = some r) : x_R G M_MD_find (x_rd 1) ex [.ref 387, .int a1, .int a2] x_np (x_hp m) (x_pi r) := by
  unfold F_MD_find at h
  show x_W G M_MD_find (x_rd 1) (x_Q G (x_rd 1) ex (x_pi r)) ex x_np (x_hp m) 0 0 [(0, .ref 387), (1, .int a1), (2, .int a2)] [] 0
  refine x_aload_n d_MD_find_0 rfl rfl ?_
  refine x_iload_n d_MD_find_1 rfl rfl ?_
  obtain ⟨r2, e2, h⟩ := x_bd h
  refine x_cVi (M2 := M_MD_isDimension) (As := [.int a1]) (st := []) d_MD_find_2 w_1459 k_MD_isDimension (c_MD_isDimension e2) rfl sh_MD hp_MD rfl ⟨Nat.le_of_ble_eq_true rfl, Nat.le_of_ble_eq_true rfl⟩ (Nat.le_of_ble_eq_true rfl) (Nat.le_of_ble_eq_true rfl) rfl ?_
  refine x_istore_n (lv2 := [(0, .ref 387), (1, .int a1), (2, .int a2), (3, .int r2.1)]) d_MD_find_5 rfl (by decide) rfl ?_
  refine x_aload_n d_MD_find_6 rfl rfl ?_
  refine x_iload_n d_MD_find_7 rfl rfl ?_
  refine x_if_ne (tgt := 15) d_MD_find_8 (by decide) (fun c_ => ?_) (fun c_ => ?_)
  · replace h := x_ie h c_
    refine x_aload_n d_MD_find_15 rfl rfl ?_
    refine x_gI d_MD_find_16 (f_MD_284 rfl) sh_MD hp_MD rfl ?_
    refine x_if_ne (tgt := 26) d_MD_find_19 (by decide) (fun c_ => ?_) (fun c_ => ?_)
    · replace h := x_ie h c_
      refine x_iconst (v := 0) d_MD_find_26 (by decide) ?_
      refine x_sbk [0, 1, 2] (lv2 := [(0, .ref 387), (1, .int a1), (2, .int a2)]) rfl ?_; exact b_MD_find_27 h
    · replace h := x_it h c_
      refine x_iconst (v := 2) d_MD_find_22 (by decide) ?_
      refine x_goto (tgt := 27) d_MD_find_23 (by decide) ?_
      refine x_sbk [0, 1, 2] (lv2 := [(0, .ref 387), (1, .int a1), (2, .int a2)]) rfl ?_; exact b_MD_find_27 h
  · replace h := x_it h c_
    refine x_iconst (v := 1) d_MD_find_11 (by decide) ?_
    refine x_goto (tgt := 27) d_MD_find_12 (by decide) ?_
    refine x_sbk [0, 1, 2] (lv2 := [(0, .ref 387), (1, .int a1), (2, .int a2)]) rfl ?_; exact b_MD_find_27 h
def B_MD_isNamed_83   (s0 : Int32) (m : x_m) : Option (Int32 × x_m) := (if x_b1 s0 = true then some (s0, m) else none)
theorem b_MD_isNamed_83 {G : x_G} {ex : Bool} {r : Int32 × x_m}   {s0 : Int32} {m : x_m} (h : B_MD_isNamed_83 s0 m = some r) : x_W G M_MD_isNamed (x_rd 0) (x_Q G (x_rd 0) ex (x_pi r)) ex x_np (x_hp m) 0 0 [] [.int s0] 83 := by
  unfold B_MD_isNamed_83 at h
  obtain ⟨g_83, h⟩ := x_gd h
  cases h
  exact x_ri d_MD_isNamed_83 rfl (x_b1_ok g_83).1
def B_MD_isNamed_82    (m : x_m) : Option (Int32 × x_m) := B_MD_isNamed_83 0 m
theorem b_MD_isNamed_82 {G : x_G} {ex : Bool} {r : Int32 × x_m}    {m : x_m} (h : B_MD_isNamed_82 m = some r) : x_W G M_MD_isNamed (x_rd 0) (x_Q G (x_rd 0) ex (x_pi r)) ex x_np (x_hp m) 0 0 [] [] 82 := by
  unfold B_MD_isNamed_82 at h
  refine x_iconst (v := 0) d_MD_isNamed_82 (by decide) ?_
  exact b_MD_isNamed_83 h
def B_MD_isNamed_62    (m : x_m) : Option (Int32 × x_m) := B_MD_isNamed_83 0 m
theorem b_MD_isNamed_62 {G : x_G} {ex : Bool} {r : Int32 × x_m}    {m : x_m} (h : B_MD_isNamed_62 m = some r) : x_W G M_MD_isNamed (x_rd 0) (x_Q G (x_rd 0) ex (x_pi r)) ex x_np (x_hp m) 0 0 [] [] 62 := by
  unfold B_MD_isNamed_62 at h
  refine x_iconst (v := 0) d_MD_isNamed_62 (by decide) ?_
  refine x_goto (tgt := 83) d_MD_isNamed_63 (by decide) ?_
  exact b_MD_isNamed_83 h
def B_MD_isNamed_22   (s0 : Int32) (m : x_m) : Option (Int32 × x_m) := (if x_b1 s0 = true then some (s0, m) else none)
theorem b_MD_isNamed_22 {G : x_G} {ex : Bool} {r : Int32 × x_m}   {s0 : Int32} {m : x_m} (h : B_MD_isNamed_22 s0 m = some r) : x_W G M_MD_isNamed (x_rd 0) (x_Q G (x_rd 0) ex (x_pi r)) ex x_np (x_hp m) 0 0 [] [.int s0] 22 := by
  unfold B_MD_isNamed_22 at h
  obtain ⟨g_22, h⟩ := x_gd h
  cases h
  exact x_ri d_MD_isNamed_22 rfl (x_b1_ok g_22).1
def F_MD_isNamed  (a1 : Int32) (m : x_m) : Option (Int32 × x_m) := (if a1 < 40 then (if a1 < 8 then (if a1 < 0 then B_MD_isNamed_82 m else (if (m.1 387 13) ≤ a1 then B_MD_isNamed_82 m else B_MD_isNamed_83 1 m)) else (if (8 + (4 * (m.1 387 13))) ≤ a1 then B_MD_isNamed_62 m else (if x_ix ((a1 / 4) - 2) 8 = true then (if (m.2.1 389 ((a1 / 4) - 2).toNatClampNeg) ≤ (a1 &&& 3) then B_MD_isNamed_62 m else B_MD_isNamed_83 1 m) else none))) else (if (40 + (m.1 387 18)) ≤ a1 then B_MD_isNamed_22 0 m else B_MD_isNamed_22 1 m))
theorem c_MD_isNamed {G : x_G} {ex : Bool} {r : Int32 × x_m}  {a1 : Int32} {m : x_m} (h : F_MD_isNamed a1 m = some r) : x_R G M_MD_isNamed (x_rd 0) ex [.ref 387, .int a1] x_np (x_hp m) (x_pi r) := by
  unfold F_MD_isNamed at h
  show x_W G M_MD_isNamed (x_rd 0) (x_Q G (x_rd 0) ex (x_pi r)) ex x_np (x_hp m) 0 0 [(0, .ref 387), (1, .int a1)] [] 0
  refine x_iload_n d_MD_isNamed_0 rfl rfl ?_
  refine x_bipush (v := 40) d_MD_isNamed_1 (by decide) ?_
  refine x_icmp_lt (tgt := 23) d_MD_isNamed_3 (by decide) (fun c_ => ?_) (fun c_ => ?_)
  · replace h := x_it h c_
    refine x_iload_n d_MD_isNamed_23 rfl rfl ?_
    refine x_bipush (v := 8) d_MD_isNamed_24 (by decide) ?_
    refine x_icmp_lt (tgt := 66) d_MD_isNamed_26 (by decide) (fun c_ => ?_) (fun c_ => ?_)
    · replace h := x_it h c_
      refine x_iload_n d_MD_isNamed_66 rfl rfl ?_
      refine x_if_lt (tgt := 82) d_MD_isNamed_67 (by decide) (fun c_ => ?_) (fun c_ => ?_)
      · replace h := x_it h c_
        refine x_sbk [] (lv2 := []) rfl ?_; exact b_MD_isNamed_82 h
      · replace h := x_ie h c_
        refine x_iload_n d_MD_isNamed_70 rfl rfl ?_
        refine x_aload_n d_MD_isNamed_71 rfl rfl ?_
        refine x_gI d_MD_isNamed_72 (f_MD_150 rfl) sh_MD hp_MD rfl ?_
        refine x_icmp_ge (tgt := 82) d_MD_isNamed_75 (by decide) (fun c_ => ?_) (fun c_ => ?_)
        · replace h := x_it h c_
          refine x_sbk [] (lv2 := []) rfl ?_; exact b_MD_isNamed_82 h
        · replace h := x_ie h c_
          refine x_iconst (v := 1) d_MD_isNamed_78 (by decide) ?_
          refine x_goto (tgt := 83) d_MD_isNamed_79 (by decide) ?_
          refine x_sbk [] (lv2 := []) rfl ?_; exact b_MD_isNamed_83 h
    · replace h := x_ie h c_
      refine x_iload_n d_MD_isNamed_29 rfl rfl ?_
      refine x_bipush (v := 8) d_MD_isNamed_30 (by decide) ?_
      refine x_iconst (v := 4) d_MD_isNamed_32 (by decide) ?_
      refine x_aload_n d_MD_isNamed_33 rfl rfl ?_
      refine x_gI d_MD_isNamed_34 (f_MD_150 rfl) sh_MD hp_MD rfl ?_
      refine x_imul d_MD_isNamed_37 ?_
      refine x_iadd d_MD_isNamed_38 ?_
      refine x_icmp_ge (tgt := 62) d_MD_isNamed_39 (by decide) (fun c_ => ?_) (fun c_ => ?_)
      · replace h := x_it h c_
        refine x_sbk [] (lv2 := []) rfl ?_; exact b_MD_isNamed_62 h
      · replace h := x_ie h c_
        refine x_iload_n d_MD_isNamed_42 rfl rfl ?_
        refine x_iconst (v := 3) d_MD_isNamed_43 (by decide) ?_
        refine x_iand d_MD_isNamed_44 ?_
        refine x_aload_n d_MD_isNamed_45 rfl rfl ?_
        refine x_gC d_MD_isNamed_46 (f_MD_24 rfl) sh_MD hp_MD rfl ?_
        refine x_iload_n d_MD_isNamed_49 rfl rfl ?_
        refine x_iconst (v := 4) d_MD_isNamed_50 (by decide) ?_
        refine x_idiv d_MD_isNamed_51 (by decide) ?_
        refine x_iconst (v := 2) d_MD_isNamed_52 (by decide) ?_
        refine x_isub d_MD_isNamed_53 ?_
        obtain ⟨g_54, h⟩ := x_gd h
        refine x_lI d_MD_isNamed_54 rfl sa_MD_levels ha_MD_levels g_54 ?_
        refine x_icmp_ge (tgt := 62) d_MD_isNamed_55 (by decide) (fun c_ => ?_) (fun c_ => ?_)
        · replace h := x_it h c_
          refine x_sbk [] (lv2 := []) rfl ?_; exact b_MD_isNamed_62 h
        · replace h := x_ie h c_
          refine x_iconst (v := 1) d_MD_isNamed_58 (by decide) ?_
          refine x_goto (tgt := 83) d_MD_isNamed_59 (by decide) ?_
          refine x_sbk [] (lv2 := []) rfl ?_; exact b_MD_isNamed_83 h
  · replace h := x_ie h c_
    refine x_iload_n d_MD_isNamed_6 rfl rfl ?_
    refine x_bipush (v := 40) d_MD_isNamed_7 (by decide) ?_
    refine x_aload_n d_MD_isNamed_9 rfl rfl ?_
    refine x_gI d_MD_isNamed_10 (f_MD_157 rfl) sh_MD hp_MD rfl ?_
    refine x_iadd d_MD_isNamed_13 ?_
    refine x_icmp_ge (tgt := 21) d_MD_isNamed_14 (by decide) (fun c_ => ?_) (fun c_ => ?_)
    · replace h := x_it h c_
      refine x_iconst (v := 0) d_MD_isNamed_21 (by decide) ?_
      refine x_sbk [] (lv2 := []) rfl ?_; exact b_MD_isNamed_22 h
    · replace h := x_ie h c_
      refine x_iconst (v := 1) d_MD_isNamed_17 (by decide) ?_
      refine x_goto (tgt := 22) d_MD_isNamed_18 (by decide) ?_
      refine x_sbk [] (lv2 := []) rfl ?_; exact b_MD_isNamed_22 h
