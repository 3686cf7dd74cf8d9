def M_MD_grouping : x_M := (⟨"QuestionReaderModel", "grouping", "()V"⟩, prog_14_method_39_code, 4, none, [])
theorem d_MD_grouping_0 : decode M_MD_grouping.2.1 0 = .ok (.aload_n 0, 1) := by decide +kernel
theorem d_MD_grouping_1 : decode M_MD_grouping.2.1 1 = .ok (.aload_n 0, 1) := by decide +kernel
theorem d_MD_grouping_2 : decode M_MD_grouping.2.1 2 = .ok (.getfield 77, 3) := by decide +kernel
theorem d_MD_grouping_5 : decode M_MD_grouping.2.1 5 = .ok (.putfield 258, 3) := by decide +kernel
theorem d_MD_grouping_8 : decode M_MD_grouping.2.1 8 = .ok (.aload_n 0, 1) := by decide +kernel
theorem d_MD_grouping_9 : decode M_MD_grouping.2.1 9 = .ok (.invokevirtual 133, 3) := by decide +kernel
theorem d_MD_grouping_12 : decode M_MD_grouping.2.1 12 = .ok (.iconst 1, 1) := by decide +kernel
theorem d_MD_grouping_13 : decode M_MD_grouping.2.1 13 = .ok (.istore_n 1, 1) := by decide +kernel
theorem d_MD_grouping_14 : decode M_MD_grouping.2.1 14 = .ok (.aload_n 0, 1) := by decide +kernel
theorem d_MD_grouping_15 : decode M_MD_grouping.2.1 15 = .ok (.aload_n 0, 1) := by decide +kernel
theorem d_MD_grouping_16 : decode M_MD_grouping.2.1 16 = .ok (.bipush 6, 2) := by decide +kernel
theorem d_MD_grouping_18 : decode M_MD_grouping.2.1 18 = .ok (.invokevirtual 173, 3) := by decide +kernel
theorem d_MD_grouping_21 : decode M_MD_grouping.2.1 21 = .ok (.invokevirtual 139, 3) := by decide +kernel
theorem d_MD_grouping_24 : decode M_MD_grouping.2.1 24 = .ok (.istore_n 2, 1) := by decide +kernel
theorem d_MD_grouping_25 : decode M_MD_grouping.2.1 25 = .ok (.iload_n 2, 1) := by decide +kernel
theorem d_MD_grouping_26 : decode M_MD_grouping.2.1 26 = .ok (.ifCond .eq 66, 3) := by decide +kernel
theorem d_MD_grouping_29 : decode M_MD_grouping.2.1 29 = .ok (.aload_n 0, 1) := by decide +kernel
theorem d_MD_grouping_30 : decode M_MD_grouping.2.1 30 = .ok (.invokevirtual 133, 3) := by decide +kernel
theorem d_MD_grouping_33 : decode M_MD_grouping.2.1 33 = .ok (.iload_n 1, 1) := by decide +kernel
theorem d_MD_grouping_34 : decode M_MD_grouping.2.1 34 = .ok (.aload_n 0, 1) := by decide +kernel
theorem d_MD_grouping_35 : decode M_MD_grouping.2.1 35 = .ok (.invokevirtual 261, 3) := by decide +kernel
theorem d_MD_grouping_38 : decode M_MD_grouping.2.1 38 = .ok (.imul, 1) := by decide +kernel
theorem d_MD_grouping_39 : decode M_MD_grouping.2.1 39 = .ok (.istore_n 1, 1) := by decide +kernel
theorem d_MD_grouping_40 : decode M_MD_grouping.2.1 40 = .ok (.aload_n 0, 1) := by decide +kernel
theorem d_MD_grouping_41 : decode M_MD_grouping.2.1 41 = .ok (.iload_n 1, 1) := by decide +kernel
theorem d_MD_grouping_42 : decode M_MD_grouping.2.1 42 = .ok (.bipush 32, 2) := by decide +kernel
theorem d_MD_grouping_44 : decode M_MD_grouping.2.1 44 = .ok (.if_icmp .gt 7, 3) := by decide +kernel
theorem d_MD_grouping_47 : decode M_MD_grouping.2.1 47 = .ok (.iconst 1, 1) := by decide +kernel
theorem d_MD_grouping_48 : decode M_MD_grouping.2.1 48 = .ok (.goto 4, 3) := by decide +kernel
theorem d_MD_grouping_51 : decode M_MD_grouping.2.1 51 = .ok (.iconst 0, 1) := by decide +kernel
theorem d_MD_grouping_52 : decode M_MD_grouping.2.1 52 = .ok (.bipush 7, 2) := by decide +kernel
theorem d_MD_grouping_54 : decode M_MD_grouping.2.1 54 = .ok (.aload_n 0, 1) := by decide +kernel
theorem d_MD_grouping_55 : decode M_MD_grouping.2.1 55 = .ok (.getfield 258, 3) := by decide +kernel
theorem d_MD_grouping_58 : decode M_MD_grouping.2.1 58 = .ok (.invokevirtual 117, 3) := by decide +kernel
theorem d_MD_grouping_61 : decode M_MD_grouping.2.1 61 = .ok (.istore_n 3, 1) := by decide +kernel
theorem d_MD_grouping_62 : decode M_MD_grouping.2.1 62 = .ok (.iload_n 3, 1) := by decide +kernel
theorem d_MD_grouping_63 : decode M_MD_grouping.2.1 63 = .ok (.ifCond .eq 7, 3) := by decide +kernel
theorem d_MD_grouping_66 : decode M_MD_grouping.2.1 66 = .ok (.aload_n 0, 1) := by decide +kernel
theorem d_MD_grouping_67 : decode M_MD_grouping.2.1 67 = .ok (.invokevirtual 133, 3) := by decide +kernel
theorem d_MD_grouping_70 : decode M_MD_grouping.2.1 70 = .ok (.iload_n 3, 1) := by decide +kernel
theorem d_MD_grouping_71 : decode M_MD_grouping.2.1 71 = .ok (.ifCond .eq 16, 3) := by decide +kernel
theorem d_MD_grouping_74 : decode M_MD_grouping.2.1 74 = .ok (.aload_n 0, 1) := by decide +kernel
theorem d_MD_grouping_75 : decode M_MD_grouping.2.1 75 = .ok (.bipush 44, 2) := by decide +kernel
theorem d_MD_grouping_77 : decode M_MD_grouping.2.1 77 = .ok (.invokevirtual 136, 3) := by decide +kernel
theorem d_MD_grouping_80 : decode M_MD_grouping.2.1 80 = .ok (.ifCond .eq 7, 3) := by decide +kernel
theorem d_MD_grouping_83 : decode M_MD_grouping.2.1 83 = .ok (.iconst 1, 1) := by decide +kernel
theorem d_MD_grouping_84 : decode M_MD_grouping.2.1 84 = .ok (.goto 4, 3) := by decide +kernel
theorem d_MD_grouping_87 : decode M_MD_grouping.2.1 87 = .ok (.iconst 0, 1) := by decide +kernel
theorem d_MD_grouping_88 : decode M_MD_grouping.2.1 88 = .ok (.istore_n 2, 1) := by decide +kernel
theorem d_MD_grouping_89 : decode M_MD_grouping.2.1 89 = .ok (.goto (-64), 3) := by decide +kernel
theorem d_MD_grouping_92 : decode M_MD_grouping.2.1 92 = .ok (.return_, 1) := by decide +kernel
theorem k_MD_grouping : x_kV M_MD_grouping "QuestionReaderModel" 0 := ⟨⟨by decide, Or.inl ⟨w_1426, rfl⟩⟩, w_1425, ws_68, ⟨by decide, by decide⟩, by decide +kernel⟩
def M_MD_item0 : x_M := (⟨"QuestionReaderModel", "item", "()V"⟩, prog_14_method_29_code, 6, none, [])
theorem d_MD_item0_0 : decode M_MD_item0.2.1 0 = .ok (.aload_n 0, 1) := by decide +kernel
theorem d_MD_item0_1 : decode M_MD_item0.2.1 1 = .ok (.getfield 77, 3) := by decide +kernel
theorem d_MD_item0_4 : decode M_MD_item0.2.1 4 = .ok (.istore_n 1, 1) := by decide +kernel
theorem d_MD_item0_5 : decode M_MD_item0.2.1 5 = .ok (.aload_n 0, 1) := by decide +kernel
theorem d_MD_item0_6 : decode M_MD_item0.2.1 6 = .ok (.bipush 10, 2) := by decide +kernel
theorem d_MD_item0_8 : decode M_MD_item0.2.1 8 = .ok (.invokevirtual 173, 3) := by decide +kernel
theorem d_MD_item0_11 : decode M_MD_item0.2.1 11 = .ok (.ifCond .eq 7, 3) := by decide +kernel
theorem d_MD_item0_14 : decode M_MD_item0.2.1 14 = .ok (.iconst 1, 1) := by decide +kernel
theorem d_MD_item0_15 : decode M_MD_item0.2.1 15 = .ok (.goto 56, 3) := by decide +kernel
theorem d_MD_item0_18 : decode M_MD_item0.2.1 18 = .ok (.aload_n 0, 1) := by decide +kernel
theorem d_MD_item0_19 : decode M_MD_item0.2.1 19 = .ok (.bipush 12, 2) := by decide +kernel
theorem d_MD_item0_21 : decode M_MD_item0.2.1 21 = .ok (.invokevirtual 173, 3) := by decide +kernel
theorem d_MD_item0_24 : decode M_MD_item0.2.1 24 = .ok (.ifCond .eq 7, 3) := by decide +kernel
theorem d_MD_item0_27 : decode M_MD_item0.2.1 27 = .ok (.iconst 2, 1) := by decide +kernel
theorem d_MD_item0_28 : decode M_MD_item0.2.1 28 = .ok (.goto 43, 3) := by decide +kernel
theorem d_MD_item0_31 : decode M_MD_item0.2.1 31 = .ok (.aload_n 0, 1) := by decide +kernel
theorem d_MD_item0_32 : decode M_MD_item0.2.1 32 = .ok (.bipush 13, 2) := by decide +kernel
theorem d_MD_item0_34 : decode M_MD_item0.2.1 34 = .ok (.invokevirtual 173, 3) := by decide +kernel
theorem d_MD_item0_37 : decode M_MD_item0.2.1 37 = .ok (.ifCond .eq 7, 3) := by decide +kernel
theorem d_MD_item0_40 : decode M_MD_item0.2.1 40 = .ok (.iconst 3, 1) := by decide +kernel
theorem d_MD_item0_41 : decode M_MD_item0.2.1 41 = .ok (.goto 30, 3) := by decide +kernel
theorem d_MD_item0_44 : decode M_MD_item0.2.1 44 = .ok (.aload_n 0, 1) := by decide +kernel
theorem d_MD_item0_45 : decode M_MD_item0.2.1 45 = .ok (.bipush 11, 2) := by decide +kernel
theorem d_MD_item0_47 : decode M_MD_item0.2.1 47 = .ok (.invokevirtual 173, 3) := by decide +kernel
theorem d_MD_item0_50 : decode M_MD_item0.2.1 50 = .ok (.ifCond .eq 7, 3) := by decide +kernel
theorem d_MD_item0_53 : decode M_MD_item0.2.1 53 = .ok (.iconst 4, 1) := by decide +kernel
theorem d_MD_item0_54 : decode M_MD_item0.2.1 54 = .ok (.goto 17, 3) := by decide +kernel
theorem d_MD_item0_57 : decode M_MD_item0.2.1 57 = .ok (.aload_n 0, 1) := by decide +kernel
theorem d_MD_item0_58 : decode M_MD_item0.2.1 58 = .ok (.bipush 9, 2) := by decide +kernel
theorem d_MD_item0_60 : decode M_MD_item0.2.1 60 = .ok (.invokevirtual 173, 3) := by decide +kernel
theorem d_MD_item0_63 : decode M_MD_item0.2.1 63 = .ok (.ifCond .eq 7, 3) := by decide +kernel
theorem d_MD_item0_66 : decode M_MD_item0.2.1 66 = .ok (.iconst 5, 1) := by decide +kernel
theorem d_MD_item0_67 : decode M_MD_item0.2.1 67 = .ok (.goto 4, 3) := by decide +kernel
theorem d_MD_item0_70 : decode M_MD_item0.2.1 70 = .ok (.iconst 0, 1) := by decide +kernel
theorem d_MD_item0_71 : decode M_MD_item0.2.1 71 = .ok (.istore_n 2, 1) := by decide +kernel
theorem d_MD_item0_72 : decode M_MD_item0.2.1 72 = .ok (.iload_n 2, 1) := by decide +kernel
theorem d_MD_item0_73 : decode M_MD_item0.2.1 73 = .ok (.ifCond .ne 10, 3) := by decide +kernel
theorem d_MD_item0_76 : decode M_MD_item0.2.1 76 = .ok (.aload_n 0, 1) := by decide +kernel
theorem d_MD_item0_77 : decode M_MD_item0.2.1 77 = .ok (.invokevirtual 176, 3) := by decide +kernel
theorem d_MD_item0_80 : decode M_MD_item0.2.1 80 = .ok (.goto 4, 3) := by decide +kernel
theorem d_MD_item0_83 : decode M_MD_item0.2.1 83 = .ok (.iconst 0, 1) := by decide +kernel
theorem d_MD_item0_84 : decode M_MD_item0.2.1 84 = .ok (.istore_n 3, 1) := by decide +kernel
theorem d_MD_item0_85 : decode M_MD_item0.2.1 85 = .ok (.aload_n 0, 1) := by decide +kernel
theorem d_MD_item0_86 : decode M_MD_item0.2.1 86 = .ok (.aload_n 0, 1) := by decide +kernel
theorem d_MD_item0_87 : decode M_MD_item0.2.1 87 = .ok (.getfield 50, 3) := by decide +kernel
theorem d_MD_item0_90 : decode M_MD_item0.2.1 90 = .ok (.getfield 179, 3) := by decide +kernel
theorem d_MD_item0_93 : decode M_MD_item0.2.1 93 = .ok (.bipush 24, 2) := by decide +kernel
theorem d_MD_item0_95 : decode M_MD_item0.2.1 95 = .ok (.if_icmp .ge 7, 3) := by decide +kernel
theorem d_MD_item0_98 : decode M_MD_item0.2.1 98 = .ok (.iconst 1, 1) := by decide +kernel
theorem d_MD_item0_99 : decode M_MD_item0.2.1 99 = .ok (.goto 4, 3) := by decide +kernel
theorem d_MD_item0_102 : decode M_MD_item0.2.1 102 = .ok (.iconst 0, 1) := by decide +kernel
theorem d_MD_item0_103 : decode M_MD_item0.2.1 103 = .ok (.bipush 7, 2) := by decide +kernel
theorem d_MD_item0_105 : decode M_MD_item0.2.1 105 = .ok (.iload_n 1, 1) := by decide +kernel
theorem d_MD_item0_106 : decode M_MD_item0.2.1 106 = .ok (.invokevirtual 117, 3) := by decide +kernel
theorem d_MD_item0_109 : decode M_MD_item0.2.1 109 = .ok (.ifCond .ne 4, 3) := by decide +kernel
theorem d_MD_item0_112 : decode M_MD_item0.2.1 112 = .ok (.return_, 1) := by decide +kernel
theorem d_MD_item0_113 : decode M_MD_item0.2.1 113 = .ok (.iconst 0, 1) := by decide +kernel
theorem d_MD_item0_114 : decode M_MD_item0.2.1 114 = .ok (.istore 4, 2) := by decide +kernel
theorem d_MD_item0_116 : decode M_MD_item0.2.1 116 = .ok (.iload_n 2, 1) := by decide +kernel
theorem d_MD_item0_117 : decode M_MD_item0.2.1 117 = .ok (.ifCond .ne 13, 3) := by decide +kernel
theorem d_MD_item0_120 : decode M_MD_item0.2.1 120 = .ok (.aload_n 0, 1) := by decide +kernel
theorem d_MD_item0_121 : decode M_MD_item0.2.1 121 = .ok (.iload_n 3, 1) := by decide +kernel
theorem d_MD_item0_122 : decode M_MD_item0.2.1 122 = .ok (.invokevirtual 182, 3) := by decide +kernel
theorem d_MD_item0_125 : decode M_MD_item0.2.1 125 = .ok (.istore 4, 2) := by decide +kernel
theorem d_MD_item0_127 : decode M_MD_item0.2.1 127 = .ok (.goto 107, 3) := by decide +kernel
theorem d_MD_item0_130 : decode M_MD_item0.2.1 130 = .ok (.aload_n 0, 1) := by decide +kernel
theorem d_MD_item0_131 : decode M_MD_item0.2.1 131 = .ok (.bipush 40, 2) := by decide +kernel
theorem d_MD_item0_133 : decode M_MD_item0.2.1 133 = .ok (.invokevirtual 166, 3) := by decide +kernel
theorem d_MD_item0_136 : decode M_MD_item0.2.1 136 = .ok (.istore 5, 2) := by decide +kernel
theorem d_MD_item0_138 : decode M_MD_item0.2.1 138 = .ok (.aload_n 0, 1) := by decide +kernel
theorem d_MD_item0_139 : decode M_MD_item0.2.1 139 = .ok (.invokevirtual 133, 3) := by decide +kernel
theorem d_MD_item0_142 : decode M_MD_item0.2.1 142 = .ok (.iload_n 2, 1) := by decide +kernel
theorem d_MD_item0_143 : decode M_MD_item0.2.1 143 = .ok (.iconst 4, 1) := by decide +kernel
theorem d_MD_item0_144 : decode M_MD_item0.2.1 144 = .ok (.if_icmp .ge 50, 3) := by decide +kernel
theorem d_MD_item0_147 : decode M_MD_item0.2.1 147 = .ok (.aload_n 0, 1) := by decide +kernel
theorem d_MD_item0_148 : decode M_MD_item0.2.1 148 = .ok (.invokevirtual 146, 3) := by decide +kernel
theorem d_MD_item0_151 : decode M_MD_item0.2.1 151 = .ok (.ifCond .eq 16, 3) := by decide +kernel
theorem d_MD_item0_154 : decode M_MD_item0.2.1 154 = .ok (.aload_n 0, 1) := by decide +kernel
theorem d_MD_item0_155 : decode M_MD_item0.2.1 155 = .ok (.bipush 40, 2) := by decide +kernel
theorem d_MD_item0_157 : decode M_MD_item0.2.1 157 = .ok (.aload_n 0, 1) := by decide +kernel
theorem d_MD_item0_158 : decode M_MD_item0.2.1 158 = .ok (.getfield 157, 3) := by decide +kernel
theorem d_MD_item0_161 : decode M_MD_item0.2.1 161 = .ok (.invokevirtual 153, 3) := by decide +kernel
theorem d_MD_item0_164 : decode M_MD_item0.2.1 164 = .ok (.goto 4, 3) := by decide +kernel
theorem d_MD_item0_167 : decode M_MD_item0.2.1 167 = .ok (.iconst 0, 1) := by decide +kernel
theorem d_MD_item0_168 : decode M_MD_item0.2.1 168 = .ok (.istore 4, 2) := by decide +kernel
theorem d_MD_item0_170 : decode M_MD_item0.2.1 170 = .ok (.aload_n 0, 1) := by decide +kernel
theorem d_MD_item0_171 : decode M_MD_item0.2.1 171 = .ok (.iload 4, 2) := by decide +kernel
theorem d_MD_item0_173 : decode M_MD_item0.2.1 173 = .ok (.ifCond .lt 7, 3) := by decide +kernel
theorem d_MD_item0_176 : decode M_MD_item0.2.1 176 = .ok (.iconst 1, 1) := by decide +kernel
theorem d_MD_item0_177 : decode M_MD_item0.2.1 177 = .ok (.goto 4, 3) := by decide +kernel
theorem d_MD_item0_180 : decode M_MD_item0.2.1 180 = .ok (.iconst 0, 1) := by decide +kernel
theorem d_MD_item0_181 : decode M_MD_item0.2.1 181 = .ok (.iconst 5, 1) := by decide +kernel
theorem d_MD_item0_182 : decode M_MD_item0.2.1 182 = .ok (.aload_n 0, 1) := by decide +kernel
theorem d_MD_item0_183 : decode M_MD_item0.2.1 183 = .ok (.getfield 77, 3) := by decide +kernel
theorem d_MD_item0_186 : decode M_MD_item0.2.1 186 = .ok (.invokevirtual 117, 3) := by decide +kernel
theorem d_MD_item0_189 : decode M_MD_item0.2.1 189 = .ok (.istore 5, 2) := by decide +kernel
theorem d_MD_item0_191 : decode M_MD_item0.2.1 191 = .ok (.goto 35, 3) := by decide +kernel
theorem d_MD_item0_194 : decode M_MD_item0.2.1 194 = .ok (.iload_n 2, 1) := by decide +kernel
theorem d_MD_item0_195 : decode M_MD_item0.2.1 195 = .ok (.iconst 4, 1) := by decide +kernel
theorem d_MD_item0_196 : decode M_MD_item0.2.1 196 = .ok (.if_icmp .ne 18, 3) := by decide +kernel
theorem d_MD_item0_199 : decode M_MD_item0.2.1 199 = .ok (.aload_n 0, 1) := by decide +kernel
theorem d_MD_item0_200 : decode M_MD_item0.2.1 200 = .ok (.aload_n 0, 1) := by decide +kernel
theorem d_MD_item0_201 : decode M_MD_item0.2.1 201 = .ok (.bipush 42, 2) := by decide +kernel
theorem d_MD_item0_203 : decode M_MD_item0.2.1 203 = .ok (.invokevirtual 136, 3) := by decide +kernel
theorem d_MD_item0_206 : decode M_MD_item0.2.1 206 = .ok (.invokevirtual 139, 3) := by decide +kernel
theorem d_MD_item0_209 : decode M_MD_item0.2.1 209 = .ok (.istore 5, 2) := by decide +kernel
theorem d_MD_item0_211 : decode M_MD_item0.2.1 211 = .ok (.goto 15, 3) := by decide +kernel
theorem d_MD_item0_214 : decode M_MD_item0.2.1 214 = .ok (.aload_n 0, 1) := by decide +kernel
theorem d_MD_item0_215 : decode M_MD_item0.2.1 215 = .ok (.invokevirtual 176, 3) := by decide +kernel
theorem d_MD_item0_218 : decode M_MD_item0.2.1 218 = .ok (.istore_n 3, 1) := by decide +kernel
theorem d_MD_item0_219 : decode M_MD_item0.2.1 219 = .ok (.aload_n 0, 1) := by decide +kernel
theorem d_MD_item0_220 : decode M_MD_item0.2.1 220 = .ok (.iload_n 3, 1) := by decide +kernel
theorem d_MD_item0_221 : decode M_MD_item0.2.1 221 = .ok (.invokevirtual 182, 3) := by decide +kernel
theorem d_MD_item0_224 : decode M_MD_item0.2.1 224 = .ok (.istore 4, 2) := by decide +kernel
theorem d_MD_item0_226 : decode M_MD_item0.2.1 226 = .ok (.aload_n 0, 1) := by decide +kernel
theorem d_MD_item0_227 : decode M_MD_item0.2.1 227 = .ok (.bipush 41, 2) := by decide +kernel
theorem d_MD_item0_229 : decode M_MD_item0.2.1 229 = .ok (.invokevirtual 166, 3) := by decide +kernel
theorem d_MD_item0_232 : decode M_MD_item0.2.1 232 = .ok (.istore 5, 2) := by decide +kernel
theorem d_MD_item0_234 : decode M_MD_item0.2.1 234 = .ok (.aload_n 0, 1) := by decide +kernel
theorem d_MD_item0_235 : decode M_MD_item0.2.1 235 = .ok (.getfield 50, 3) := by decide +kernel
theorem d_MD_item0_238 : decode M_MD_item0.2.1 238 = .ok (.getfield 185, 3) := by decide +kernel
theorem d_MD_item0_241 : decode M_MD_item0.2.1 241 = .ok (.aload_n 0, 1) := by decide +kernel
theorem d_MD_item0_242 : decode M_MD_item0.2.1 242 = .ok (.getfield 50, 3) := by decide +kernel
theorem d_MD_item0_245 : decode M_MD_item0.2.1 245 = .ok (.getfield 179, 3) := by decide +kernel
theorem d_MD_item0_248 : decode M_MD_item0.2.1 248 = .ok (.iload_n 2, 1) := by decide +kernel
theorem d_MD_item0_249 : decode M_MD_item0.2.1 249 = .ok (.iastore, 1) := by decide +kernel
theorem d_MD_item0_250 : decode M_MD_item0.2.1 250 = .ok (.aload_n 0, 1) := by decide +kernel
theorem d_MD_item0_251 : decode M_MD_item0.2.1 251 = .ok (.getfield 50, 3) := by decide +kernel
theorem d_MD_item0_254 : decode M_MD_item0.2.1 254 = .ok (.getfield 188, 3) := by decide +kernel
theorem d_MD_item0_257 : decode M_MD_item0.2.1 257 = .ok (.aload_n 0, 1) := by decide +kernel
theorem d_MD_item0_258 : decode M_MD_item0.2.1 258 = .ok (.getfield 50, 3) := by decide +kernel
theorem d_MD_item0_261 : decode M_MD_item0.2.1 261 = .ok (.getfield 179, 3) := by decide +kernel
theorem d_MD_item0_264 : decode M_MD_item0.2.1 264 = .ok (.iload 4, 2) := by decide +kernel
theorem d_MD_item0_266 : decode M_MD_item0.2.1 266 = .ok (.iastore, 1) := by decide +kernel
theorem d_MD_item0_267 : decode M_MD_item0.2.1 267 = .ok (.aload_n 0, 1) := by decide +kernel
theorem d_MD_item0_268 : decode M_MD_item0.2.1 268 = .ok (.getfield 50, 3) := by decide +kernel
theorem d_MD_item0_271 : decode M_MD_item0.2.1 271 = .ok (.getfield 191, 3) := by decide +kernel
theorem d_MD_item0_274 : decode M_MD_item0.2.1 274 = .ok (.aload_n 0, 1) := by decide +kernel
theorem d_MD_item0_275 : decode M_MD_item0.2.1 275 = .ok (.getfield 50, 3) := by decide +kernel
theorem d_MD_item0_278 : decode M_MD_item0.2.1 278 = .ok (.getfield 179, 3) := by decide +kernel
theorem d_MD_item0_281 : decode M_MD_item0.2.1 281 = .ok (.iload_n 1, 1) := by decide +kernel
theorem d_MD_item0_282 : decode M_MD_item0.2.1 282 = .ok (.iastore, 1) := by decide +kernel
theorem d_MD_item0_283 : decode M_MD_item0.2.1 283 = .ok (.aload_n 0, 1) := by decide +kernel
theorem d_MD_item0_284 : decode M_MD_item0.2.1 284 = .ok (.getfield 50, 3) := by decide +kernel
theorem d_MD_item0_287 : decode M_MD_item0.2.1 287 = .ok (.dup, 1) := by decide +kernel
theorem d_MD_item0_288 : decode M_MD_item0.2.1 288 = .ok (.getfield 179, 3) := by decide +kernel
theorem d_MD_item0_291 : decode M_MD_item0.2.1 291 = .ok (.iconst 1, 1) := by decide +kernel
theorem d_MD_item0_292 : decode M_MD_item0.2.1 292 = .ok (.iadd, 1) := by decide +kernel
theorem d_MD_item0_293 : decode M_MD_item0.2.1 293 = .ok (.putfield 179, 3) := by decide +kernel
theorem d_MD_item0_296 : decode M_MD_item0.2.1 296 = .ok (.return_, 1) := by decide +kernel
theorem k_MD_item0 : x_kV M_MD_item0 "QuestionReaderModel" 0 := ⟨⟨by decide, Or.inl ⟨w_1386, rfl⟩⟩, w_1385, ws_58, ⟨by decide, by decide⟩, by decide +kernel⟩
def M_MD_spread : x_M := (⟨"QuestionReaderModel", "spread", "(LQuestionReaderModel$Question;)V"⟩, prog_14_method_40_code, 8, none, [])
theorem d_MD_spread_0 : decode M_MD_spread.2.1 0 = .ok (.aload_n 1, 1) := by decide +kernel
theorem d_MD_spread_1 : decode M_MD_spread.2.1 1 = .ok (.iconst 0, 1) := by decide +kernel
theorem d_MD_spread_2 : decode M_MD_spread.2.1 2 = .ok (.putfield 264, 3) := by decide +kernel
theorem d_MD_spread_5 : decode M_MD_spread.2.1 5 = .ok (.iconst 1, 1) := by decide +kernel
theorem d_MD_spread_6 : decode M_MD_spread.2.1 6 = .ok (.aload_n 1, 1) := by decide +kernel
theorem d_MD_spread_7 : decode M_MD_spread.2.1 7 = .ok (.getfield 240, 3) := by decide +kernel
theorem d_MD_spread_10 : decode M_MD_spread.2.1 10 = .ok (.ishl, 1) := by decide +kernel
theorem d_MD_spread_11 : decode M_MD_spread.2.1 11 = .ok (.iconst 1, 1) := by decide +kernel
theorem d_MD_spread_12 : decode M_MD_spread.2.1 12 = .ok (.isub, 1) := by decide +kernel
theorem d_MD_spread_13 : decode M_MD_spread.2.1 13 = .ok (.istore_n 2, 1) := by decide +kernel
theorem d_MD_spread_14 : decode M_MD_spread.2.1 14 = .ok (.iload_n 2, 1) := by decide +kernel
theorem d_MD_spread_15 : decode M_MD_spread.2.1 15 = .ok (.ifCond .lt 158, 3) := by decide +kernel
theorem d_MD_spread_18 : decode M_MD_spread.2.1 18 = .ok (.iconst 1, 1) := by decide +kernel
theorem d_MD_spread_19 : decode M_MD_spread.2.1 19 = .ok (.istore_n 3, 1) := by decide +kernel
theorem d_MD_spread_20 : decode M_MD_spread.2.1 20 = .ok (.iconst 0, 1) := by decide +kernel
theorem d_MD_spread_21 : decode M_MD_spread.2.1 21 = .ok (.istore 4, 2) := by decide +kernel
theorem d_MD_spread_23 : decode M_MD_spread.2.1 23 = .ok (.iconst 0, 1) := by decide +kernel
theorem d_MD_spread_24 : decode M_MD_spread.2.1 24 = .ok (.istore 5, 2) := by decide +kernel
theorem d_MD_spread_26 : decode M_MD_spread.2.1 26 = .ok (.iload 5, 2) := by decide +kernel
theorem d_MD_spread_28 : decode M_MD_spread.2.1 28 = .ok (.aload_n 1, 1) := by decide +kernel
theorem d_MD_spread_29 : decode M_MD_spread.2.1 29 = .ok (.getfield 252, 3) := by decide +kernel
theorem d_MD_spread_32 : decode M_MD_spread.2.1 32 = .ok (.if_icmp .ge 111, 3) := by decide +kernel
theorem d_MD_spread_35 : decode M_MD_spread.2.1 35 = .ok (.iload_n 2, 1) := by decide +kernel
theorem d_MD_spread_36 : decode M_MD_spread.2.1 36 = .ok (.iload 4, 2) := by decide +kernel
theorem d_MD_spread_38 : decode M_MD_spread.2.1 38 = .ok (.ishr, 1) := by decide +kernel
theorem d_MD_spread_39 : decode M_MD_spread.2.1 39 = .ok (.iconst 1, 1) := by decide +kernel
theorem d_MD_spread_40 : decode M_MD_spread.2.1 40 = .ok (.aload_n 1, 1) := by decide +kernel
theorem d_MD_spread_41 : decode M_MD_spread.2.1 41 = .ok (.getfield 255, 3) := by decide +kernel
theorem d_MD_spread_44 : decode M_MD_spread.2.1 44 = .ok (.iload 5, 2) := by decide +kernel
theorem d_MD_spread_46 : decode M_MD_spread.2.1 46 = .ok (.iaload, 1) := by decide +kernel
theorem d_MD_spread_47 : decode M_MD_spread.2.1 47 = .ok (.ishl, 1) := by decide +kernel
theorem d_MD_spread_48 : decode M_MD_spread.2.1 48 = .ok (.iconst 1, 1) := by decide +kernel
theorem d_MD_spread_49 : decode M_MD_spread.2.1 49 = .ok (.isub, 1) := by decide +kernel
theorem d_MD_spread_50 : decode M_MD_spread.2.1 50 = .ok (.iand, 1) := by decide +kernel
theorem d_MD_spread_51 : decode M_MD_spread.2.1 51 = .ok (.istore 6, 2) := by decide +kernel
theorem d_MD_spread_53 : decode M_MD_spread.2.1 53 = .ok (.iconst 1, 1) := by decide +kernel
theorem d_MD_spread_54 : decode M_MD_spread.2.1 54 = .ok (.aload_n 1, 1) := by decide +kernel
theorem d_MD_spread_55 : decode M_MD_spread.2.1 55 = .ok (.getfield 255, 3) := by decide +kernel
theorem d_MD_spread_58 : decode M_MD_spread.2.1 58 = .ok (.iload 5, 2) := by decide +kernel
theorem d_MD_spread_60 : decode M_MD_spread.2.1 60 = .ok (.iaload, 1) := by decide +kernel
theorem d_MD_spread_61 : decode M_MD_spread.2.1 61 = .ok (.ishl, 1) := by decide +kernel
theorem d_MD_spread_62 : decode M_MD_spread.2.1 62 = .ok (.iconst 1, 1) := by decide +kernel
theorem d_MD_spread_63 : decode M_MD_spread.2.1 63 = .ok (.isub, 1) := by decide +kernel
theorem d_MD_spread_64 : decode M_MD_spread.2.1 64 = .ok (.istore 7, 2) := by decide +kernel
theorem d_MD_spread_66 : decode M_MD_spread.2.1 66 = .ok (.iload_n 3, 1) := by decide +kernel
theorem d_MD_spread_67 : decode M_MD_spread.2.1 67 = .ok (.ifCond .eq 56, 3) := by decide +kernel
theorem d_MD_spread_70 : decode M_MD_spread.2.1 70 = .ok (.aload_n 1, 1) := by decide +kernel
theorem d_MD_spread_71 : decode M_MD_spread.2.1 71 = .ok (.getfield 249, 3) := by decide +kernel
theorem d_MD_spread_74 : decode M_MD_spread.2.1 74 = .ok (.iload 5, 2) := by decide +kernel
theorem d_MD_spread_76 : decode M_MD_spread.2.1 76 = .ok (.iaload, 1) := by decide +kernel
theorem d_MD_spread_77 : decode M_MD_spread.2.1 77 = .ok (.iconst 2, 1) := by decide +kernel
theorem d_MD_spread_78 : decode M_MD_spread.2.1 78 = .ok (.if_icmp .eq 41, 3) := by decide +kernel
theorem d_MD_spread_81 : decode M_MD_spread.2.1 81 = .ok (.aload_n 1, 1) := by decide +kernel
theorem d_MD_spread_82 : decode M_MD_spread.2.1 82 = .ok (.getfield 249, 3) := by decide +kernel
theorem d_MD_spread_85 : decode M_MD_spread.2.1 85 = .ok (.iload 5, 2) := by decide +kernel
theorem d_MD_spread_87 : decode M_MD_spread.2.1 87 = .ok (.iaload, 1) := by decide +kernel
theorem d_MD_spread_88 : decode M_MD_spread.2.1 88 = .ok (.ifCond .ne 10, 3) := by decide +kernel
theorem d_MD_spread_91 : decode M_MD_spread.2.1 91 = .ok (.iload 6, 2) := by decide +kernel
theorem d_MD_spread_93 : decode M_MD_spread.2.1 93 = .ok (.iload 7, 2) := by decide +kernel
theorem d_MD_spread_95 : decode M_MD_spread.2.1 95 = .ok (.if_icmp .eq 24, 3) := by decide +kernel
theorem d_MD_spread_98 : decode M_MD_spread.2.1 98 = .ok (.aload_n 1, 1) := by decide +kernel
theorem d_MD_spread_99 : decode M_MD_spread.2.1 99 = .ok (.getfield 249, 3) := by decide +kernel
theorem d_MD_spread_102 : decode M_MD_spread.2.1 102 = .ok (.iload 5, 2) := by decide +kernel
theorem d_MD_spread_104 : decode M_MD_spread.2.1 104 = .ok (.iaload, 1) := by decide +kernel
theorem d_MD_spread_105 : decode M_MD_spread.2.1 105 = .ok (.iconst 1, 1) := by decide +kernel
theorem d_MD_spread_106 : decode M_MD_spread.2.1 106 = .ok (.if_icmp .ne 17, 3) := by decide +kernel
theorem d_MD_spread_109 : decode M_MD_spread.2.1 109 = .ok (.iload 6, 2) := by decide +kernel
theorem d_MD_spread_111 : decode M_MD_spread.2.1 111 = .ok (.iload 6, 2) := by decide +kernel
theorem d_MD_spread_113 : decode M_MD_spread.2.1 113 = .ok (.iconst 1, 1) := by decide +kernel
theorem d_MD_spread_114 : decode M_MD_spread.2.1 114 = .ok (.iadd, 1) := by decide +kernel
theorem d_MD_spread_115 : decode M_MD_spread.2.1 115 = .ok (.iand, 1) := by decide +kernel
theorem d_MD_spread_116 : decode M_MD_spread.2.1 116 = .ok (.ifCond .ne 7, 3) := by decide +kernel
theorem d_MD_spread_119 : decode M_MD_spread.2.1 119 = .ok (.iconst 1, 1) := by decide +kernel
theorem d_MD_spread_120 : decode M_MD_spread.2.1 120 = .ok (.goto 4, 3) := by decide +kernel
theorem d_MD_spread_123 : decode M_MD_spread.2.1 123 = .ok (.iconst 0, 1) := by decide +kernel
theorem d_MD_spread_124 : decode M_MD_spread.2.1 124 = .ok (.istore_n 3, 1) := by decide +kernel
theorem d_MD_spread_125 : decode M_MD_spread.2.1 125 = .ok (.iload 4, 2) := by decide +kernel
theorem d_MD_spread_127 : decode M_MD_spread.2.1 127 = .ok (.aload_n 1, 1) := by decide +kernel
theorem d_MD_spread_128 : decode M_MD_spread.2.1 128 = .ok (.getfield 255, 3) := by decide +kernel
theorem d_MD_spread_131 : decode M_MD_spread.2.1 131 = .ok (.iload 5, 2) := by decide +kernel
theorem d_MD_spread_133 : decode M_MD_spread.2.1 133 = .ok (.iaload, 1) := by decide +kernel
theorem d_MD_spread_134 : decode M_MD_spread.2.1 134 = .ok (.iadd, 1) := by decide +kernel
theorem d_MD_spread_135 : decode M_MD_spread.2.1 135 = .ok (.istore 4, 2) := by decide +kernel
theorem d_MD_spread_137 : decode M_MD_spread.2.1 137 = .ok (.iinc 5 1, 3) := by decide +kernel
theorem d_MD_spread_140 : decode M_MD_spread.2.1 140 = .ok (.goto (-114), 3) := by decide +kernel
theorem d_MD_spread_143 : decode M_MD_spread.2.1 143 = .ok (.iload_n 3, 1) := by decide +kernel
theorem d_MD_spread_144 : decode M_MD_spread.2.1 144 = .ok (.ifCond .eq 23, 3) := by decide +kernel
theorem d_MD_spread_147 : decode M_MD_spread.2.1 147 = .ok (.aload_n 1, 1) := by decide +kernel
theorem d_MD_spread_148 : decode M_MD_spread.2.1 148 = .ok (.getfield 267, 3) := by decide +kernel
theorem d_MD_spread_151 : decode M_MD_spread.2.1 151 = .ok (.aload_n 1, 1) := by decide +kernel
theorem d_MD_spread_152 : decode M_MD_spread.2.1 152 = .ok (.getfield 264, 3) := by decide +kernel
theorem d_MD_spread_155 : decode M_MD_spread.2.1 155 = .ok (.iload_n 2, 1) := by decide +kernel
theorem d_MD_spread_156 : decode M_MD_spread.2.1 156 = .ok (.iastore, 1) := by decide +kernel
theorem d_MD_spread_157 : decode M_MD_spread.2.1 157 = .ok (.aload_n 1, 1) := by decide +kernel
theorem d_MD_spread_158 : decode M_MD_spread.2.1 158 = .ok (.dup, 1) := by decide +kernel
theorem d_MD_spread_159 : decode M_MD_spread.2.1 159 = .ok (.getfield 264, 3) := by decide +kernel
theorem d_MD_spread_162 : decode M_MD_spread.2.1 162 = .ok (.iconst 1, 1) := by decide +kernel
theorem d_MD_spread_163 : decode M_MD_spread.2.1 163 = .ok (.iadd, 1) := by decide +kernel
theorem d_MD_spread_164 : decode M_MD_spread.2.1 164 = .ok (.putfield 264, 3) := by decide +kernel
theorem d_MD_spread_167 : decode M_MD_spread.2.1 167 = .ok (.iinc 2 (-1), 3) := by decide +kernel
theorem d_MD_spread_170 : decode M_MD_spread.2.1 170 = .ok (.goto (-156), 3) := by decide +kernel
theorem d_MD_spread_173 : decode M_MD_spread.2.1 173 = .ok (.return_, 1) := by decide +kernel
theorem k_MD_spread : x_kV M_MD_spread "QuestionReaderModel" 1 := ⟨⟨by decide, Or.inl ⟨w_1438, rfl⟩⟩, w_1437, ws_71, ⟨by decide, by decide⟩, by decide +kernel⟩
def M_MD_question : x_M := (⟨"QuestionReaderModel", "question", "()V"⟩, prog_14_method_41_code, 6, none, [])
theorem d_MD_question_0 : decode M_MD_question.2.1 0 = .ok (.aload_n 0, 1) := by decide +kernel
theorem d_MD_question_1 : decode M_MD_question.2.1 1 = .ok (.getfield 50, 3) := by decide +kernel
theorem d_MD_question_4 : decode M_MD_question.2.1 4 = .ok (.iconst 0, 1) := by decide +kernel
theorem d_MD_question_5 : decode M_MD_question.2.1 5 = .ok (.putfield 179, 3) := by decide +kernel
theorem d_MD_question_8 : decode M_MD_question.2.1 8 = .ok (.aload_n 0, 1) := by decide +kernel
theorem d_MD_question_9 : decode M_MD_question.2.1 9 = .ok (.getfield 50, 3) := by decide +kernel
theorem d_MD_question_12 : decode M_MD_question.2.1 12 = .ok (.iconst 0, 1) := by decide +kernel
theorem d_MD_question_13 : decode M_MD_question.2.1 13 = .ok (.putfield 240, 3) := by decide +kernel
theorem d_MD_question_16 : decode M_MD_question.2.1 16 = .ok (.aload_n 0, 1) := by decide +kernel
theorem d_MD_question_17 : decode M_MD_question.2.1 17 = .ok (.getfield 50, 3) := by decide +kernel
theorem d_MD_question_20 : decode M_MD_question.2.1 20 = .ok (.iconst 0, 1) := by decide +kernel
theorem d_MD_question_21 : decode M_MD_question.2.1 21 = .ok (.putfield 252, 3) := by decide +kernel
theorem d_MD_question_24 : decode M_MD_question.2.1 24 = .ok (.aload_n 0, 1) := by decide +kernel
theorem d_MD_question_25 : decode M_MD_question.2.1 25 = .ok (.getfield 50, 3) := by decide +kernel
theorem d_MD_question_28 : decode M_MD_question.2.1 28 = .ok (.iconst 0, 1) := by decide +kernel
theorem d_MD_question_29 : decode M_MD_question.2.1 29 = .ok (.putfield 196, 3) := by decide +kernel
theorem d_MD_question_32 : decode M_MD_question.2.1 32 = .ok (.aload_n 0, 1) := by decide +kernel
theorem d_MD_question_33 : decode M_MD_question.2.1 33 = .ok (.getfield 50, 3) := by decide +kernel
theorem d_MD_question_36 : decode M_MD_question.2.1 36 = .ok (.iconst 0, 1) := by decide +kernel
theorem d_MD_question_37 : decode M_MD_question.2.1 37 = .ok (.putfield 217, 3) := by decide +kernel
theorem d_MD_question_40 : decode M_MD_question.2.1 40 = .ok (.aload_n 0, 1) := by decide +kernel
theorem d_MD_question_41 : decode M_MD_question.2.1 41 = .ok (.iconst 0, 1) := by decide +kernel
theorem d_MD_question_42 : decode M_MD_question.2.1 42 = .ok (.putfield 208, 3) := by decide +kernel
theorem d_MD_question_45 : decode M_MD_question.2.1 45 = .ok (.iconst 1, 1) := by decide +kernel
theorem d_MD_question_46 : decode M_MD_question.2.1 46 = .ok (.istore_n 1, 1) := by decide +kernel
theorem d_MD_question_47 : decode M_MD_question.2.1 47 = .ok (.iload_n 1, 1) := by decide +kernel
theorem d_MD_question_48 : decode M_MD_question.2.1 48 = .ok (.ifCond .eq 40, 3) := by decide +kernel
theorem d_MD_question_51 : decode M_MD_question.2.1 51 = .ok (.aload_n 0, 1) := by decide +kernel
theorem d_MD_question_52 : decode M_MD_question.2.1 52 = .ok (.invokevirtual 133, 3) := by decide +kernel
theorem d_MD_question_55 : decode M_MD_question.2.1 55 = .ok (.aload_n 0, 1) := by decide +kernel
theorem d_MD_question_56 : decode M_MD_question.2.1 56 = .ok (.invokevirtual 270, 3) := by decide +kernel
theorem d_MD_question_59 : decode M_MD_question.2.1 59 = .ok (.aload_n 0, 1) := by decide +kernel
theorem d_MD_question_60 : decode M_MD_question.2.1 60 = .ok (.invokevirtual 133, 3) := by decide +kernel
theorem d_MD_question_63 : decode M_MD_question.2.1 63 = .ok (.aload_n 0, 1) := by decide +kernel
theorem d_MD_question_64 : decode M_MD_question.2.1 64 = .ok (.getfield 67, 3) := by decide +kernel
theorem d_MD_question_67 : decode M_MD_question.2.1 67 = .ok (.ifCond .ne 16, 3) := by decide +kernel
theorem d_MD_question_70 : decode M_MD_question.2.1 70 = .ok (.aload_n 0, 1) := by decide +kernel
theorem d_MD_question_71 : decode M_MD_question.2.1 71 = .ok (.bipush 44, 2) := by decide +kernel
theorem d_MD_question_73 : decode M_MD_question.2.1 73 = .ok (.invokevirtual 136, 3) := by decide +kernel
theorem d_MD_question_76 : decode M_MD_question.2.1 76 = .ok (.ifCond .eq 7, 3) := by decide +kernel
theorem d_MD_question_79 : decode M_MD_question.2.1 79 = .ok (.iconst 1, 1) := by decide +kernel
theorem d_MD_question_80 : decode M_MD_question.2.1 80 = .ok (.goto 4, 3) := by decide +kernel
theorem d_MD_question_83 : decode M_MD_question.2.1 83 = .ok (.iconst 0, 1) := by decide +kernel
theorem d_MD_question_84 : decode M_MD_question.2.1 84 = .ok (.istore_n 1, 1) := by decide +kernel
theorem d_MD_question_85 : decode M_MD_question.2.1 85 = .ok (.goto (-38), 3) := by decide +kernel
theorem d_MD_question_88 : decode M_MD_question.2.1 88 = .ok (.aload_n 0, 1) := by decide +kernel
theorem d_MD_question_89 : decode M_MD_question.2.1 89 = .ok (.getfield 67, 3) := by decide +kernel
theorem d_MD_question_92 : decode M_MD_question.2.1 92 = .ok (.ifCond .ne 19, 3) := by decide +kernel
theorem d_MD_question_95 : decode M_MD_question.2.1 95 = .ok (.aload_n 0, 1) := by decide +kernel
theorem d_MD_question_96 : decode M_MD_question.2.1 96 = .ok (.iconst 4, 1) := by decide +kernel
theorem d_MD_question_97 : decode M_MD_question.2.1 97 = .ok (.invokevirtual 173, 3) := by decide +kernel
theorem d_MD_question_100 : decode M_MD_question.2.1 100 = .ok (.ifCond .eq 11, 3) := by decide +kernel
theorem d_MD_question_103 : decode M_MD_question.2.1 103 = .ok (.aload_n 0, 1) := by decide +kernel
theorem d_MD_question_104 : decode M_MD_question.2.1 104 = .ok (.invokevirtual 133, 3) := by decide +kernel
theorem d_MD_question_107 : decode M_MD_question.2.1 107 = .ok (.aload_n 0, 1) := by decide +kernel
theorem d_MD_question_108 : decode M_MD_question.2.1 108 = .ok (.invokevirtual 211, 3) := by decide +kernel
theorem d_MD_question_111 : decode M_MD_question.2.1 111 = .ok (.aload_n 0, 1) := by decide +kernel
theorem d_MD_question_112 : decode M_MD_question.2.1 112 = .ok (.getfield 67, 3) := by decide +kernel
theorem d_MD_question_115 : decode M_MD_question.2.1 115 = .ok (.ifCond .ne 15, 3) := by decide +kernel
theorem d_MD_question_118 : decode M_MD_question.2.1 118 = .ok (.aload_n 0, 1) := by decide +kernel
theorem d_MD_question_119 : decode M_MD_question.2.1 119 = .ok (.iconst 5, 1) := by decide +kernel
theorem d_MD_question_120 : decode M_MD_question.2.1 120 = .ok (.invokevirtual 173, 3) := by decide +kernel
theorem d_MD_question_123 : decode M_MD_question.2.1 123 = .ok (.ifCond .eq 7, 3) := by decide +kernel
theorem d_MD_question_126 : decode M_MD_question.2.1 126 = .ok (.aload_n 0, 1) := by decide +kernel
theorem d_MD_question_127 : decode M_MD_question.2.1 127 = .ok (.invokevirtual 273, 3) := by decide +kernel
theorem d_MD_question_130 : decode M_MD_question.2.1 130 = .ok (.aload_n 0, 1) := by decide +kernel
theorem d_MD_question_131 : decode M_MD_question.2.1 131 = .ok (.aload_n 0, 1) := by decide +kernel
theorem d_MD_question_132 : decode M_MD_question.2.1 132 = .ok (.bipush 59, 2) := by decide +kernel
theorem d_MD_question_134 : decode M_MD_question.2.1 134 = .ok (.invokevirtual 136, 3) := by decide +kernel
theorem d_MD_question_137 : decode M_MD_question.2.1 137 = .ok (.invokevirtual 139, 3) := by decide +kernel
theorem d_MD_question_140 : decode M_MD_question.2.1 140 = .ok (.istore_n 2, 1) := by decide +kernel
theorem d_MD_question_141 : decode M_MD_question.2.1 141 = .ok (.iconst 0, 1) := by decide +kernel
theorem d_MD_question_142 : decode M_MD_question.2.1 142 = .ok (.istore_n 3, 1) := by decide +kernel
theorem d_MD_question_143 : decode M_MD_question.2.1 143 = .ok (.iload_n 3, 1) := by decide +kernel
theorem d_MD_question_144 : decode M_MD_question.2.1 144 = .ok (.aload_n 0, 1) := by decide +kernel
theorem d_MD_question_145 : decode M_MD_question.2.1 145 = .ok (.getfield 50, 3) := by decide +kernel
theorem d_MD_question_148 : decode M_MD_question.2.1 148 = .ok (.getfield 179, 3) := by decide +kernel
theorem d_MD_question_151 : decode M_MD_question.2.1 151 = .ok (.if_icmp .ge 121, 3) := by decide +kernel
theorem d_MD_question_154 : decode M_MD_question.2.1 154 = .ok (.aload_n 0, 1) := by decide +kernel
theorem d_MD_question_155 : decode M_MD_question.2.1 155 = .ok (.getfield 67, 3) := by decide +kernel
theorem d_MD_question_158 : decode M_MD_question.2.1 158 = .ok (.ifCond .ne 114, 3) := by decide +kernel
theorem d_MD_question_161 : decode M_MD_question.2.1 161 = .ok (.aload_n 0, 1) := by decide +kernel
theorem d_MD_question_162 : decode M_MD_question.2.1 162 = .ok (.getfield 50, 3) := by decide +kernel
theorem d_MD_question_165 : decode M_MD_question.2.1 165 = .ok (.getfield 185, 3) := by decide +kernel
theorem d_MD_question_168 : decode M_MD_question.2.1 168 = .ok (.iload_n 3, 1) := by decide +kernel
theorem d_MD_question_169 : decode M_MD_question.2.1 169 = .ok (.iaload, 1) := by decide +kernel
theorem d_MD_question_170 : decode M_MD_question.2.1 170 = .ok (.ifCond .le 20, 3) := by decide +kernel
theorem d_MD_question_173 : decode M_MD_question.2.1 173 = .ok (.aload_n 0, 1) := by decide +kernel
theorem d_MD_question_174 : decode M_MD_question.2.1 174 = .ok (.getfield 50, 3) := by decide +kernel
theorem d_MD_question_177 : decode M_MD_question.2.1 177 = .ok (.getfield 185, 3) := by decide +kernel
theorem d_MD_question_180 : decode M_MD_question.2.1 180 = .ok (.iload_n 3, 1) := by decide +kernel
theorem d_MD_question_181 : decode M_MD_question.2.1 181 = .ok (.iaload, 1) := by decide +kernel
theorem d_MD_question_182 : decode M_MD_question.2.1 182 = .ok (.iconst 5, 1) := by decide +kernel
theorem d_MD_question_183 : decode M_MD_question.2.1 183 = .ok (.if_icmp .ge 7, 3) := by decide +kernel
theorem d_MD_question_186 : decode M_MD_question.2.1 186 = .ok (.iconst 1, 1) := by decide +kernel
theorem d_MD_question_187 : decode M_MD_question.2.1 187 = .ok (.goto 4, 3) := by decide +kernel
theorem d_MD_question_190 : decode M_MD_question.2.1 190 = .ok (.iconst 0, 1) := by decide +kernel
theorem d_MD_question_191 : decode M_MD_question.2.1 191 = .ok (.istore 4, 2) := by decide +kernel
theorem d_MD_question_193 : decode M_MD_question.2.1 193 = .ok (.iconst 0, 1) := by decide +kernel
theorem d_MD_question_194 : decode M_MD_question.2.1 194 = .ok (.istore 5, 2) := by decide +kernel
theorem d_MD_question_196 : decode M_MD_question.2.1 196 = .ok (.iload 5, 2) := by decide +kernel
theorem d_MD_question_198 : decode M_MD_question.2.1 198 = .ok (.aload_n 0, 1) := by decide +kernel
theorem d_MD_question_199 : decode M_MD_question.2.1 199 = .ok (.getfield 50, 3) := by decide +kernel
theorem d_MD_question_202 : decode M_MD_question.2.1 202 = .ok (.getfield 240, 3) := by decide +kernel
theorem d_MD_question_205 : decode M_MD_question.2.1 205 = .ok (.if_icmp .ge 43, 3) := by decide +kernel
theorem d_MD_question_208 : decode M_MD_question.2.1 208 = .ok (.iload 4, 2) := by decide +kernel
theorem d_MD_question_210 : decode M_MD_question.2.1 210 = .ok (.ifCond .ne 25, 3) := by decide +kernel
theorem d_MD_question_213 : decode M_MD_question.2.1 213 = .ok (.aload_n 0, 1) := by decide +kernel
theorem d_MD_question_214 : decode M_MD_question.2.1 214 = .ok (.getfield 50, 3) := by decide +kernel
theorem d_MD_question_217 : decode M_MD_question.2.1 217 = .ok (.getfield 243, 3) := by decide +kernel
theorem d_MD_question_220 : decode M_MD_question.2.1 220 = .ok (.iload 5, 2) := by decide +kernel
theorem d_MD_question_222 : decode M_MD_question.2.1 222 = .ok (.iaload, 1) := by decide +kernel
theorem d_MD_question_223 : decode M_MD_question.2.1 223 = .ok (.aload_n 0, 1) := by decide +kernel
theorem d_MD_question_224 : decode M_MD_question.2.1 224 = .ok (.getfield 50, 3) := by decide +kernel
theorem d_MD_question_227 : decode M_MD_question.2.1 227 = .ok (.getfield 188, 3) := by decide +kernel
theorem d_MD_question_230 : decode M_MD_question.2.1 230 = .ok (.iload_n 3, 1) := by decide +kernel
theorem d_MD_question_231 : decode M_MD_question.2.1 231 = .ok (.iaload, 1) := by decide +kernel
theorem d_MD_question_232 : decode M_MD_question.2.1 232 = .ok (.if_icmp .ne 7, 3) := by decide +kernel
theorem d_MD_question_235 : decode M_MD_question.2.1 235 = .ok (.iconst 1, 1) := by decide +kernel
theorem d_MD_question_236 : decode M_MD_question.2.1 236 = .ok (.goto 4, 3) := by decide +kernel
theorem d_MD_question_239 : decode M_MD_question.2.1 239 = .ok (.iconst 0, 1) := by decide +kernel
theorem d_MD_question_240 : decode M_MD_question.2.1 240 = .ok (.istore 4, 2) := by decide +kernel
theorem d_MD_question_242 : decode M_MD_question.2.1 242 = .ok (.iinc 5 1, 3) := by decide +kernel
theorem d_MD_question_245 : decode M_MD_question.2.1 245 = .ok (.goto (-49), 3) := by decide +kernel
theorem d_MD_question_248 : decode M_MD_question.2.1 248 = .ok (.aload_n 0, 1) := by decide +kernel
theorem d_MD_question_249 : decode M_MD_question.2.1 249 = .ok (.iload 4, 2) := by decide +kernel
theorem d_MD_question_251 : decode M_MD_question.2.1 251 = .ok (.bipush 11, 2) := by decide +kernel
theorem d_MD_question_253 : decode M_MD_question.2.1 253 = .ok (.aload_n 0, 1) := by decide +kernel
theorem d_MD_question_254 : decode M_MD_question.2.1 254 = .ok (.getfield 50, 3) := by decide +kernel
theorem d_MD_question_257 : decode M_MD_question.2.1 257 = .ok (.getfield 191, 3) := by decide +kernel
theorem d_MD_question_260 : decode M_MD_question.2.1 260 = .ok (.iload_n 3, 1) := by decide +kernel
theorem d_MD_question_261 : decode M_MD_question.2.1 261 = .ok (.iaload, 1) := by decide +kernel
theorem d_MD_question_262 : decode M_MD_question.2.1 262 = .ok (.invokevirtual 117, 3) := by decide +kernel
theorem d_MD_question_265 : decode M_MD_question.2.1 265 = .ok (.istore_n 2, 1) := by decide +kernel
theorem d_MD_question_266 : decode M_MD_question.2.1 266 = .ok (.iinc 3 1, 3) := by decide +kernel
theorem d_MD_question_269 : decode M_MD_question.2.1 269 = .ok (.goto (-126), 3) := by decide +kernel
theorem d_MD_question_272 : decode M_MD_question.2.1 272 = .ok (.aload_n 0, 1) := by decide +kernel
theorem d_MD_question_273 : decode M_MD_question.2.1 273 = .ok (.getfield 67, 3) := by decide +kernel
theorem d_MD_question_276 : decode M_MD_question.2.1 276 = .ok (.ifCond .ne 34, 3) := by decide +kernel
theorem d_MD_question_279 : decode M_MD_question.2.1 279 = .ok (.aload_n 0, 1) := by decide +kernel
theorem d_MD_question_280 : decode M_MD_question.2.1 280 = .ok (.aload_n 0, 1) := by decide +kernel
theorem d_MD_question_281 : decode M_MD_question.2.1 281 = .ok (.getfield 50, 3) := by decide +kernel
theorem d_MD_question_284 : decode M_MD_question.2.1 284 = .ok (.invokevirtual 276, 3) := by decide +kernel
theorem d_MD_question_287 : decode M_MD_question.2.1 287 = .ok (.aload_n 0, 1) := by decide +kernel
theorem d_MD_question_288 : decode M_MD_question.2.1 288 = .ok (.getfield 46, 3) := by decide +kernel
theorem d_MD_question_291 : decode M_MD_question.2.1 291 = .ok (.astore_n 3, 1) := by decide +kernel
theorem d_MD_question_292 : decode M_MD_question.2.1 292 = .ok (.aload_n 0, 1) := by decide +kernel
theorem d_MD_question_293 : decode M_MD_question.2.1 293 = .ok (.aload_n 0, 1) := by decide +kernel
theorem d_MD_question_294 : decode M_MD_question.2.1 294 = .ok (.getfield 50, 3) := by decide +kernel
theorem d_MD_question_297 : decode M_MD_question.2.1 297 = .ok (.putfield 46, 3) := by decide +kernel
theorem d_MD_question_300 : decode M_MD_question.2.1 300 = .ok (.aload_n 0, 1) := by decide +kernel
theorem d_MD_question_301 : decode M_MD_question.2.1 301 = .ok (.aload_n 3, 1) := by decide +kernel
theorem d_MD_question_302 : decode M_MD_question.2.1 302 = .ok (.putfield 50, 3) := by decide +kernel
theorem d_MD_question_305 : decode M_MD_question.2.1 305 = .ok (.aload_n 0, 1) := by decide +kernel
theorem d_MD_question_306 : decode M_MD_question.2.1 306 = .ok (.iconst 1, 1) := by decide +kernel
theorem d_MD_question_307 : decode M_MD_question.2.1 307 = .ok (.putfield 280, 3) := by decide +kernel
theorem d_MD_question_310 : decode M_MD_question.2.1 310 = .ok (.return_, 1) := by decide +kernel
theorem k_MD_question : x_kV M_MD_question "QuestionReaderModel" 0 := ⟨⟨by decide, Or.inl ⟨w_1382, rfl⟩⟩, w_1381, ws_57, ⟨by decide, by decide⟩, by decide +kernel⟩
def M_MD_statement : x_M := (⟨"QuestionReaderModel", "statement", "()V"⟩, prog_14_method_42_code, 2, none, [])
theorem d_MD_statement_0 : decode M_MD_statement.2.1 0 = .ok (.aload_n 0, 1) := by decide +kernel
theorem d_MD_statement_1 : decode M_MD_statement.2.1 1 = .ok (.iconst 0, 1) := by decide +kernel
theorem d_MD_statement_2 : decode M_MD_statement.2.1 2 = .ok (.invokevirtual 173, 3) := by decide +kernel
theorem d_MD_statement_5 : decode M_MD_statement.2.1 5 = .ok (.ifCond .ne 19, 3) := by decide +kernel
theorem d_MD_statement_8 : decode M_MD_statement.2.1 8 = .ok (.aload_n 0, 1) := by decide +kernel
theorem d_MD_statement_9 : decode M_MD_statement.2.1 9 = .ok (.iconst 1, 1) := by decide +kernel
theorem d_MD_statement_10 : decode M_MD_statement.2.1 10 = .ok (.invokevirtual 173, 3) := by decide +kernel
theorem d_MD_statement_13 : decode M_MD_statement.2.1 13 = .ok (.ifCond .ne 11, 3) := by decide +kernel
theorem d_MD_statement_16 : decode M_MD_statement.2.1 16 = .ok (.aload_n 0, 1) := by decide +kernel
theorem d_MD_statement_17 : decode M_MD_statement.2.1 17 = .ok (.iconst 2, 1) := by decide +kernel
theorem d_MD_statement_18 : decode M_MD_statement.2.1 18 = .ok (.invokevirtual 173, 3) := by decide +kernel
theorem d_MD_statement_21 : decode M_MD_statement.2.1 21 = .ok (.ifCond .eq 7, 3) := by decide +kernel
theorem d_MD_statement_24 : decode M_MD_statement.2.1 24 = .ok (.iconst 1, 1) := by decide +kernel
theorem d_MD_statement_25 : decode M_MD_statement.2.1 25 = .ok (.goto 4, 3) := by decide +kernel
theorem d_MD_statement_28 : decode M_MD_statement.2.1 28 = .ok (.iconst 0, 1) := by decide +kernel
theorem d_MD_statement_29 : decode M_MD_statement.2.1 29 = .ok (.istore_n 1, 1) := by decide +kernel
theorem d_MD_statement_30 : decode M_MD_statement.2.1 30 = .ok (.aload_n 0, 1) := by decide +kernel
theorem d_MD_statement_31 : decode M_MD_statement.2.1 31 = .ok (.iload_n 1, 1) := by decide +kernel
theorem d_MD_statement_32 : decode M_MD_statement.2.1 32 = .ok (.ifCond .ne 11, 3) := by decide +kernel
theorem d_MD_statement_35 : decode M_MD_statement.2.1 35 = .ok (.aload_n 0, 1) := by decide +kernel
theorem d_MD_statement_36 : decode M_MD_statement.2.1 36 = .ok (.iconst 3, 1) := by decide +kernel
theorem d_MD_statement_37 : decode M_MD_statement.2.1 37 = .ok (.invokevirtual 173, 3) := by decide +kernel
theorem d_MD_statement_40 : decode M_MD_statement.2.1 40 = .ok (.ifCond .eq 7, 3) := by decide +kernel
theorem d_MD_statement_43 : decode M_MD_statement.2.1 43 = .ok (.iconst 1, 1) := by decide +kernel
theorem d_MD_statement_44 : decode M_MD_statement.2.1 44 = .ok (.goto 4, 3) := by decide +kernel
theorem d_MD_statement_47 : decode M_MD_statement.2.1 47 = .ok (.iconst 0, 1) := by decide +kernel
theorem d_MD_statement_48 : decode M_MD_statement.2.1 48 = .ok (.invokevirtual 139, 3) := by decide +kernel
theorem d_MD_statement_51 : decode M_MD_statement.2.1 51 = .ok (.ifCond .eq 29, 3) := by decide +kernel
theorem d_MD_statement_54 : decode M_MD_statement.2.1 54 = .ok (.aload_n 0, 1) := by decide +kernel
theorem d_MD_statement_55 : decode M_MD_statement.2.1 55 = .ok (.iload_n 1, 1) := by decide +kernel
theorem d_MD_statement_56 : decode M_MD_statement.2.1 56 = .ok (.aload_n 0, 1) := by decide +kernel
theorem d_MD_statement_57 : decode M_MD_statement.2.1 57 = .ok (.getfield 284, 3) := by decide +kernel
theorem d_MD_statement_60 : decode M_MD_statement.2.1 60 = .ok (.if_icmp .eq 7, 3) := by decide +kernel
theorem d_MD_statement_63 : decode M_MD_statement.2.1 63 = .ok (.iconst 1, 1) := by decide +kernel
theorem d_MD_statement_64 : decode M_MD_statement.2.1 64 = .ok (.goto 4, 3) := by decide +kernel
theorem d_MD_statement_67 : decode M_MD_statement.2.1 67 = .ok (.iconst 0, 1) := by decide +kernel
theorem d_MD_statement_68 : decode M_MD_statement.2.1 68 = .ok (.bipush 8, 2) := by decide +kernel
theorem d_MD_statement_70 : decode M_MD_statement.2.1 70 = .ok (.aload_n 0, 1) := by decide +kernel
theorem d_MD_statement_71 : decode M_MD_statement.2.1 71 = .ok (.getfield 77, 3) := by decide +kernel
theorem d_MD_statement_74 : decode M_MD_statement.2.1 74 = .ok (.invokevirtual 117, 3) := by decide +kernel
theorem d_MD_statement_77 : decode M_MD_statement.2.1 77 = .ok (.ifCond .ne 4, 3) := by decide +kernel
theorem d_MD_statement_80 : decode M_MD_statement.2.1 80 = .ok (.return_, 1) := by decide +kernel
theorem d_MD_statement_81 : decode M_MD_statement.2.1 81 = .ok (.aload_n 0, 1) := by decide +kernel
theorem d_MD_statement_82 : decode M_MD_statement.2.1 82 = .ok (.iconst 0, 1) := by decide +kernel
theorem d_MD_statement_83 : decode M_MD_statement.2.1 83 = .ok (.invokevirtual 173, 3) := by decide +kernel
theorem d_MD_statement_86 : decode M_MD_statement.2.1 86 = .ok (.ifCond .eq 10, 3) := by decide +kernel
theorem d_MD_statement_89 : decode M_MD_statement.2.1 89 = .ok (.aload_n 0, 1) := by decide +kernel
theorem d_MD_statement_90 : decode M_MD_statement.2.1 90 = .ok (.invokevirtual 287, 3) := by decide +kernel
theorem d_MD_statement_93 : decode M_MD_statement.2.1 93 = .ok (.goto 33, 3) := by decide +kernel
theorem d_MD_statement_96 : decode M_MD_statement.2.1 96 = .ok (.aload_n 0, 1) := by decide +kernel
theorem d_MD_statement_97 : decode M_MD_statement.2.1 97 = .ok (.iconst 1, 1) := by decide +kernel
theorem d_MD_statement_98 : decode M_MD_statement.2.1 98 = .ok (.invokevirtual 173, 3) := by decide +kernel
theorem d_MD_statement_101 : decode M_MD_statement.2.1 101 = .ok (.ifCond .eq 10, 3) := by decide +kernel
theorem d_MD_statement_104 : decode M_MD_statement.2.1 104 = .ok (.aload_n 0, 1) := by decide +kernel
theorem d_MD_statement_105 : decode M_MD_statement.2.1 105 = .ok (.invokevirtual 290, 3) := by decide +kernel
theorem d_MD_statement_108 : decode M_MD_statement.2.1 108 = .ok (.goto 18, 3) := by decide +kernel
theorem d_MD_statement_111 : decode M_MD_statement.2.1 111 = .ok (.iload_n 1, 1) := by decide +kernel
theorem d_MD_statement_112 : decode M_MD_statement.2.1 112 = .ok (.ifCond .eq 10, 3) := by decide +kernel
theorem d_MD_statement_115 : decode M_MD_statement.2.1 115 = .ok (.aload_n 0, 1) := by decide +kernel
theorem d_MD_statement_116 : decode M_MD_statement.2.1 116 = .ok (.invokevirtual 293, 3) := by decide +kernel
theorem d_MD_statement_119 : decode M_MD_statement.2.1 119 = .ok (.goto 7, 3) := by decide +kernel
theorem d_MD_statement_122 : decode M_MD_statement.2.1 122 = .ok (.aload_n 0, 1) := by decide +kernel
theorem d_MD_statement_123 : decode M_MD_statement.2.1 123 = .ok (.invokevirtual 296, 3) := by decide +kernel
theorem d_MD_statement_126 : decode M_MD_statement.2.1 126 = .ok (.return_, 1) := by decide +kernel
theorem k_MD_statement : x_kV M_MD_statement "QuestionReaderModel" 0 := ⟨⟨by decide, Or.inl ⟨w_1326, rfl⟩⟩, w_1325, ws_43, ⟨by decide, by decide⟩, by decide +kernel⟩
def M_MD_run : x_M := (⟨"QuestionReaderModel", "run", "()I"⟩, prog_14_method_43_code, 2, some (.int), [])
theorem d_MD_run_0 : decode M_MD_run.2.1 0 = .ok (.aload_n 0, 1) := by decide +kernel
theorem d_MD_run_1 : decode M_MD_run.2.1 1 = .ok (.iconst 0, 1) := by decide +kernel
theorem d_MD_run_2 : decode M_MD_run.2.1 2 = .ok (.putfield 57, 3) := by decide +kernel
theorem d_MD_run_5 : decode M_MD_run.2.1 5 = .ok (.aload_n 0, 1) := by decide +kernel
theorem d_MD_run_6 : decode M_MD_run.2.1 6 = .ok (.iconst 0, 1) := by decide +kernel
theorem d_MD_run_7 : decode M_MD_run.2.1 7 = .ok (.putfield 67, 3) := by decide +kernel
theorem d_MD_run_10 : decode M_MD_run.2.1 10 = .ok (.aload_n 0, 1) := by decide +kernel
theorem d_MD_run_11 : decode M_MD_run.2.1 11 = .ok (.iconst (-1), 1) := by decide +kernel
theorem d_MD_run_12 : decode M_MD_run.2.1 12 = .ok (.putfield 20, 3) := by decide +kernel
theorem d_MD_run_15 : decode M_MD_run.2.1 15 = .ok (.aload_n 0, 1) := by decide +kernel
theorem d_MD_run_16 : decode M_MD_run.2.1 16 = .ok (.iconst 0, 1) := by decide +kernel
theorem d_MD_run_17 : decode M_MD_run.2.1 17 = .ok (.putfield 280, 3) := by decide +kernel
theorem d_MD_run_20 : decode M_MD_run.2.1 20 = .ok (.aload_n 0, 1) := by decide +kernel
theorem d_MD_run_21 : decode M_MD_run.2.1 21 = .ok (.iconst 0, 1) := by decide +kernel
theorem d_MD_run_22 : decode M_MD_run.2.1 22 = .ok (.putfield 70, 3) := by decide +kernel
theorem d_MD_run_25 : decode M_MD_run.2.1 25 = .ok (.iconst 0, 1) := by decide +kernel
theorem d_MD_run_26 : decode M_MD_run.2.1 26 = .ok (.istore_n 1, 1) := by decide +kernel
theorem d_MD_run_27 : decode M_MD_run.2.1 27 = .ok (.aload_n 0, 1) := by decide +kernel
theorem d_MD_run_28 : decode M_MD_run.2.1 28 = .ok (.invokevirtual 133, 3) := by decide +kernel
theorem d_MD_run_31 : decode M_MD_run.2.1 31 = .ok (.aload_n 0, 1) := by decide +kernel
theorem d_MD_run_32 : decode M_MD_run.2.1 32 = .ok (.getfield 67, 3) := by decide +kernel
theorem d_MD_run_35 : decode M_MD_run.2.1 35 = .ok (.ifCond .ne 36, 3) := by decide +kernel
theorem d_MD_run_38 : decode M_MD_run.2.1 38 = .ok (.aload_n 0, 1) := by decide +kernel
theorem d_MD_run_39 : decode M_MD_run.2.1 39 = .ok (.getfield 86, 3) := by decide +kernel
theorem d_MD_run_42 : decode M_MD_run.2.1 42 = .ok (.ifCond .eq 29, 3) := by decide +kernel
theorem d_MD_run_45 : decode M_MD_run.2.1 45 = .ok (.aload_n 0, 1) := by decide +kernel
theorem d_MD_run_46 : decode M_MD_run.2.1 46 = .ok (.invokevirtual 299, 3) := by decide +kernel
theorem d_MD_run_49 : decode M_MD_run.2.1 49 = .ok (.iload_n 1, 1) := by decide +kernel
theorem d_MD_run_50 : decode M_MD_run.2.1 50 = .ok (.aload_n 0, 1) := by decide +kernel
theorem d_MD_run_51 : decode M_MD_run.2.1 51 = .ok (.getfield 67, 3) := by decide +kernel
theorem d_MD_run_54 : decode M_MD_run.2.1 54 = .ok (.ifCond .ne 7, 3) := by decide +kernel
theorem d_MD_run_57 : decode M_MD_run.2.1 57 = .ok (.iconst 1, 1) := by decide +kernel
theorem d_MD_run_58 : decode M_MD_run.2.1 58 = .ok (.goto 4, 3) := by decide +kernel
theorem d_MD_run_61 : decode M_MD_run.2.1 61 = .ok (.iconst 0, 1) := by decide +kernel
theorem d_MD_run_62 : decode M_MD_run.2.1 62 = .ok (.iadd, 1) := by decide +kernel
theorem d_MD_run_63 : decode M_MD_run.2.1 63 = .ok (.istore_n 1, 1) := by decide +kernel
theorem d_MD_run_64 : decode M_MD_run.2.1 64 = .ok (.aload_n 0, 1) := by decide +kernel
theorem d_MD_run_65 : decode M_MD_run.2.1 65 = .ok (.invokevirtual 133, 3) := by decide +kernel
theorem d_MD_run_68 : decode M_MD_run.2.1 68 = .ok (.goto (-37), 3) := by decide +kernel
theorem d_MD_run_71 : decode M_MD_run.2.1 71 = .ok (.aload_n 0, 1) := by decide +kernel
theorem d_MD_run_72 : decode M_MD_run.2.1 72 = .ok (.iconst 0, 1) := by decide +kernel
theorem d_MD_run_73 : decode M_MD_run.2.1 73 = .ok (.putfield 60, 3) := by decide +kernel
theorem d_MD_run_76 : decode M_MD_run.2.1 76 = .ok (.iload_n 1, 1) := by decide +kernel
theorem d_MD_run_77 : decode M_MD_run.2.1 77 = .ok (.ireturn, 1) := by decide +kernel
theorem k_MD_run : x_kV M_MD_run "QuestionReaderModel" 0 := ⟨⟨by decide, Or.inl ⟨w_1239, rfl⟩⟩, w_1237, w_1238, ⟨by decide, by decide⟩, by decide +kernel⟩
def B_MD_grouping_88  (K25 : Int32 → Int32 → x_m → Option (x_m)) (l1 : Int32) (s0 : Int32) (m : x_m) : Option (x_m) := K25 l1 s0 m
theorem b_MD_grouping_88 {G : x_G} {ex : Bool} {r : x_m}  {K25 : Int32 → Int32 → x_m → Option (x_m)} (hK25 : ∀ (l1 : Int32) (l2 : Int32) (m : x_m), K25 l1 l2 m = some r → x_W G M_MD_grouping (x_rd 10) (x_Q G (x_rd 10) ex (x_pv r)) ex x_np (x_hp m) 0 0 [(0, .ref 387), (1, .int l1), (2, .int l2)] [] 25) {l1 : Int32} {s0 : Int32} {m : x_m} (h : B_MD_grouping_88 K25 l1 s0 m = some r) : x_W G M_MD_grouping (x_rd 10) (x_Q G (x_rd 10) ex (x_pv r)) ex x_np (x_hp m) 0 0 [(0, .ref 387), (1, .int l1)] [.int s0] 88 := by
  unfold B_MD_grouping_88 at h
  refine x_istore_n (lv2 := [(0, .ref 387), (1, .int l1), (2, .int s0)]) d_MD_grouping_88 rfl (by decide) rfl ?_
  refine x_goto (tgt := 25) d_MD_grouping_89 (by decide) ?_
  exact hK25 _ _ _ h
def B_MD_grouping_87  (K25 : Int32 → Int32 → x_m → Option (x_m)) (l1 : Int32) (m : x_m) : Option (x_m) := B_MD_grouping_88 K25 l1 0 m
theorem b_MD_grouping_87 {G : x_G} {ex : Bool} {r : x_m}  {K25 : Int32 → Int32 → x_m → Option (x_m)} (hK25 : ∀ (l1 : Int32) (l2 : Int32) (m : x_m), K25 l1 l2 m = some r → x_W G M_MD_grouping (x_rd 10) (x_Q G (x_rd 10) ex (x_pv r)) ex x_np (x_hp m) 0 0 [(0, .ref 387), (1, .int l1), (2, .int l2)] [] 25) {l1 : Int32} {m : x_m} (h : B_MD_grouping_87 K25 l1 m = some r) : x_W G M_MD_grouping (x_rd 10) (x_Q G (x_rd 10) ex (x_pv r)) ex x_np (x_hp m) 0 0 [(0, .ref 387), (1, .int l1)] [] 87 := by
  unfold B_MD_grouping_87 at h
  refine x_iconst (v := 0) d_MD_grouping_87 (by decide) ?_
  exact b_MD_grouping_88 hK25 h
def B_MD_grouping_70  (K25 : Int32 → Int32 → x_m → Option (x_m)) (l1 : Int32) (l3 : Int32) (m : x_m) : Option (x_m) := (if l3 = 0 then B_MD_grouping_87 K25 l1 m else ((F_MD_isSign 44 m).bind fun r77 => (if r77.1 = 0 then B_MD_grouping_87 K25 l1 r77.2 else B_MD_grouping_88 K25 l1 1 r77.2)))
theorem b_MD_grouping_70 {G : x_G} {ex : Bool} {r : x_m}  {K25 : Int32 → Int32 → x_m → Option (x_m)} (hK25 : ∀ (l1 : Int32) (l2 : Int32) (m : x_m), K25 l1 l2 m = some r → x_W G M_MD_grouping (x_rd 10) (x_Q G (x_rd 10) ex (x_pv r)) ex x_np (x_hp m) 0 0 [(0, .ref 387), (1, .int l1), (2, .int l2)] [] 25) {l1 : Int32} {l3 : Int32} {m : x_m} (h : B_MD_grouping_70 K25 l1 l3 m = some r) : x_W G M_MD_grouping (x_rd 10) (x_Q G (x_rd 10) ex (x_pv r)) ex x_np (x_hp m) 0 0 [(0, .ref 387), (1, .int l1), (3, .int l3)] [] 70 := by
  unfold B_MD_grouping_70 at h
  refine x_iload_n d_MD_grouping_70 rfl rfl ?_
  refine x_if_eq (tgt := 87) d_MD_grouping_71 (by decide) (fun c_ => ?_) (fun c_ => ?_)
  · replace h := x_it h c_
    refine x_sbk [0, 1] (lv2 := [(0, .ref 387), (1, .int l1)]) rfl ?_; exact b_MD_grouping_87 hK25 h
  · replace h := x_ie h c_
    refine x_aload_n d_MD_grouping_74 rfl rfl ?_
    refine x_bipush (v := 44) d_MD_grouping_75 (by decide) ?_
    obtain ⟨r77, e77, h⟩ := x_bd h
    refine x_cVi (M2 := M_MD_isSign) (As := [.int 44]) (st := []) d_MD_grouping_77 w_1363 k_MD_isSign (c_MD_isSign e77) rfl sh_MD hp_MD rfl ⟨Nat.le_of_ble_eq_true rfl, Nat.le_of_ble_eq_true rfl⟩ (Nat.le_of_ble_eq_true rfl) (Nat.le_of_ble_eq_true rfl) rfl ?_
    refine x_if_eq (tgt := 87) d_MD_grouping_80 (by decide) (fun c_ => ?_) (fun c_ => ?_)
    · replace h := x_it h c_
      refine x_sbk [0, 1] (lv2 := [(0, .ref 387), (1, .int l1)]) rfl ?_; exact b_MD_grouping_87 hK25 h
    · replace h := x_ie h c_
      refine x_iconst (v := 1) d_MD_grouping_83 (by decide) ?_
      refine x_goto (tgt := 88) d_MD_grouping_84 (by decide) ?_
      refine x_sbk [0, 1] (lv2 := [(0, .ref 387), (1, .int l1)]) rfl ?_; exact b_MD_grouping_88 hK25 h
def B_MD_grouping_52  (K25 : Int32 → Int32 → x_m → Option (x_m)) (l1 : Int32) (s0 : Int32) (m : x_m) : Option (x_m) := ((F_MD_want s0 7 (m.1 387 25) m).bind fun r58 => (if r58.1 = 0 then B_MD_grouping_70 K25 l1 r58.1 r58.2 else ((F_MD_read r58.2).bind fun r67 => B_MD_grouping_70 K25 l1 r58.1 r67)))
theorem b_MD_grouping_52 {G : x_G} {ex : Bool} {r : x_m}  {K25 : Int32 → Int32 → x_m → Option (x_m)} (hK25 : ∀ (l1 : Int32) (l2 : Int32) (m : x_m), K25 l1 l2 m = some r → x_W G M_MD_grouping (x_rd 10) (x_Q G (x_rd 10) ex (x_pv r)) ex x_np (x_hp m) 0 0 [(0, .ref 387), (1, .int l1), (2, .int l2)] [] 25) {l1 : Int32} {s0 : Int32} {m : x_m} (h : B_MD_grouping_52 K25 l1 s0 m = some r) : x_W G M_MD_grouping (x_rd 10) (x_Q G (x_rd 10) ex (x_pv r)) ex x_np (x_hp m) 0 0 [(0, .ref 387), (1, .int l1)] [.int s0, .ref 387] 52 := by
  unfold B_MD_grouping_52 at h
  refine x_bipush (v := 7) d_MD_grouping_52 (by decide) ?_
  refine x_aload_n d_MD_grouping_54 rfl rfl ?_
  refine x_gI d_MD_grouping_55 (f_MD_258 rfl) sh_MD hp_MD rfl ?_
  obtain ⟨r58, e58, h⟩ := x_bd h
  refine x_cVi (M2 := M_MD_want) (As := [.int s0, .int 7, .int (m.1 387 25)]) (st := []) d_MD_grouping_58 w_1315 k_MD_want (c_MD_want e58) rfl sh_MD hp_MD rfl ⟨Nat.le_of_ble_eq_true rfl, Nat.le_of_ble_eq_true rfl⟩ (Nat.le_of_ble_eq_true rfl) (Nat.le_of_ble_eq_true rfl) rfl ?_
  refine x_istore_n (lv2 := [(0, .ref 387), (1, .int l1), (3, .int r58.1)]) d_MD_grouping_61 rfl (by decide) rfl ?_
  refine x_iload_n d_MD_grouping_62 rfl rfl ?_
  refine x_if_eq (tgt := 70) d_MD_grouping_63 (by decide) (fun c_ => ?_) (fun c_ => ?_)
  · replace h := x_it h c_
    exact b_MD_grouping_70 hK25 h
  · replace h := x_ie h c_
    refine x_aload_n d_MD_grouping_66 rfl rfl ?_
    obtain ⟨r67, e67, h⟩ := x_bd h
    refine x_cVv (M2 := M_MD_read) (As := []) (st := []) d_MD_grouping_67 w_1240 k_MD_read (c_MD_read e67) rfl sh_MD hp_MD rfl ⟨Nat.le_of_ble_eq_true rfl, Nat.le_of_ble_eq_true rfl⟩ (Nat.le_of_ble_eq_true rfl) (Nat.le_of_ble_eq_true rfl) rfl ?_
    exact b_MD_grouping_70 hK25 h
def B_MD_grouping_25   : Nat → Int32 → Int32 → x_m → Option (x_m)
  | 0, _, _, _ => none
  | f_ + 1, l1, l2, m => (if l2 = 0 then some m else ((F_MD_read m).bind fun r30 => ((F_MD_groupsOf r30).bind fun r35 => (if 32 < (l1 * r35.1) then B_MD_grouping_52 (B_MD_grouping_25 f_) (l1 * r35.1) 0 r35.2 else B_MD_grouping_52 (B_MD_grouping_25 f_) (l1 * r35.1) 1 r35.2))))
theorem b_MD_grouping_25 {G : x_G} {ex : Bool} {r : x_m}   : ∀ (f_ : Nat) (l1 : Int32) (l2 : Int32) (m : x_m), B_MD_grouping_25 f_ l1 l2 m = some r → x_W G M_MD_grouping (x_rd 10) (x_Q G (x_rd 10) ex (x_pv r)) ex x_np (x_hp m) 0 0 [(0, .ref 387), (1, .int l1), (2, .int l2)] [] 25 := by
  intro f_
  induction f_ with
  | zero => intro l1 l2 m h; exact nomatch h
  | succ f_ ih =>
    intro l1 l2 m h
    rw [B_MD_grouping_25] at h
    have hK25 := ih
    refine x_iload_n d_MD_grouping_25 rfl rfl ?_
    refine x_if_eq (tgt := 92) d_MD_grouping_26 (by decide) (fun c_ => ?_) (fun c_ => ?_)
    · replace h := x_it h c_
      cases h
      exact x_rv d_MD_grouping_92 rfl
    · replace h := x_ie h c_
      refine x_aload_n d_MD_grouping_29 rfl rfl ?_
      obtain ⟨r30, e30, h⟩ := x_bd h
      refine x_cVv (M2 := M_MD_read) (As := []) (st := []) d_MD_grouping_30 w_1240 k_MD_read (c_MD_read e30) rfl sh_MD hp_MD rfl ⟨Nat.le_of_ble_eq_true rfl, Nat.le_of_ble_eq_true rfl⟩ (Nat.le_of_ble_eq_true rfl) (Nat.le_of_ble_eq_true rfl) rfl ?_
      refine x_iload_n d_MD_grouping_33 rfl rfl ?_
      refine x_aload_n d_MD_grouping_34 rfl rfl ?_
      obtain ⟨r35, e35, h⟩ := x_bd h
      refine x_cVi (M2 := M_MD_groupsOf) (As := []) (st := [.int l1]) d_MD_grouping_35 w_1427 k_MD_groupsOf (c_MD_groupsOf e35) rfl sh_MD hp_MD rfl ⟨Nat.le_of_ble_eq_true rfl, Nat.le_of_ble_eq_true rfl⟩ (Nat.le_of_ble_eq_true rfl) (Nat.le_of_ble_eq_true rfl) rfl ?_
      refine x_imul d_MD_grouping_38 ?_
      refine x_istore_n (lv2 := [(0, .ref 387), (1, .int (l1 * r35.1)), (2, .int l2)]) d_MD_grouping_39 rfl (by decide) rfl ?_
      refine x_aload_n d_MD_grouping_40 rfl rfl ?_
      refine x_iload_n d_MD_grouping_41 rfl rfl ?_
      refine x_bipush (v := 32) d_MD_grouping_42 (by decide) ?_
      refine x_icmp_gt (tgt := 51) d_MD_grouping_44 (by decide) (fun c_ => ?_) (fun c_ => ?_)
      · replace h := x_it h c_
        refine x_iconst (v := 0) d_MD_grouping_51 (by decide) ?_
        refine x_sbk [0, 1] (lv2 := [(0, .ref 387), (1, .int (l1 * r35.1))]) rfl ?_; exact b_MD_grouping_52 hK25 h
      · replace h := x_ie h c_
        refine x_iconst (v := 1) d_MD_grouping_47 (by decide) ?_
        refine x_goto (tgt := 52) d_MD_grouping_48 (by decide) ?_
        refine x_sbk [0, 1] (lv2 := [(0, .ref 387), (1, .int (l1 * r35.1))]) rfl ?_; exact b_MD_grouping_52 hK25 h
def F_MD_grouping   (m : x_m) : Option (x_m) := ((F_MD_read (x_wS m 387 25 (m.1 387 8))).bind fun r9 => ((F_MD_isWord 6 r9).bind fun r18 => ((F_MD_must r18.1 r18.2).bind fun r21 => B_MD_grouping_25 x_fu 1 r21.1 r21.2)))
theorem c_MD_grouping {G : x_G} {ex : Bool} {r : x_m}   {m : x_m} (h : F_MD_grouping m = some r) : x_R G M_MD_grouping (x_rd 10) ex [.ref 387] x_np (x_hp m) (x_pv r) := by
  unfold F_MD_grouping at h
  show x_W G M_MD_grouping (x_rd 10) (x_Q G (x_rd 10) ex (x_pv r)) ex x_np (x_hp m) 0 0 [(0, .ref 387)] [] 0
  refine x_aload_n d_MD_grouping_0 rfl rfl ?_
  refine x_aload_n d_MD_grouping_1 rfl rfl ?_
  refine x_gI d_MD_grouping_2 (f_MD_77 rfl) sh_MD hp_MD rfl ?_
  refine x_pI d_MD_grouping_5 (f_MD_258 rfl) tb_MD rfl sh_MD hp_MD rfl ⟨rfl, rfl⟩ ?_
  refine x_aload_n d_MD_grouping_8 rfl rfl ?_
  obtain ⟨r9, e9, h⟩ := x_bd h
  refine x_cVv (M2 := M_MD_read) (As := []) (st := []) d_MD_grouping_9 w_1240 k_MD_read (c_MD_read e9) rfl sh_MD hp_MD rfl ⟨Nat.le_of_ble_eq_true rfl, Nat.le_of_ble_eq_true rfl⟩ (Nat.le_of_ble_eq_true rfl) (Nat.le_of_ble_eq_true rfl) rfl ?_
  refine x_iconst (v := 1) d_MD_grouping_12 (by decide) ?_
  refine x_istore_n (lv2 := [(0, .ref 387), (1, .int 1)]) d_MD_grouping_13 rfl (by decide) rfl ?_
  refine x_aload_n d_MD_grouping_14 rfl rfl ?_
  refine x_aload_n d_MD_grouping_15 rfl rfl ?_
  refine x_bipush (v := 6) d_MD_grouping_16 (by decide) ?_
  obtain ⟨r18, e18, h⟩ := x_bd h
  refine x_cVi (M2 := M_MD_isWord) (As := [.int 6]) (st := [.ref 387]) d_MD_grouping_18 w_1327 k_MD_isWord (c_MD_isWord e18) rfl sh_MD hp_MD rfl ⟨Nat.le_of_ble_eq_true rfl, Nat.le_of_ble_eq_true rfl⟩ (Nat.le_of_ble_eq_true rfl) (Nat.le_of_ble_eq_true rfl) rfl ?_
  obtain ⟨r21, e21, h⟩ := x_bd h
  refine x_cVi (M2 := M_MD_must) (As := [.int r18.1]) (st := []) d_MD_grouping_21 w_1331 k_MD_must (c_MD_must e21) rfl sh_MD hp_MD rfl ⟨Nat.le_of_ble_eq_true rfl, Nat.le_of_ble_eq_true rfl⟩ (Nat.le_of_ble_eq_true rfl) (Nat.le_of_ble_eq_true rfl) rfl ?_
  refine x_istore_n (lv2 := [(0, .ref 387), (1, .int 1), (2, .int r21.1)]) d_MD_grouping_24 rfl (by decide) rfl ?_
  exact b_MD_grouping_25 _ _ _ _ h
def B_MD_item0_234   (l1 : Int32) (l2 : Int32) (l4 : Int32) (m : x_m) : Option (x_m) := (if x_mq (m.2.2.1 387 22) = true then (if x_mq (m.2.2.1 387 22) = true then (if x_ix (m.1 (m.2.2.1 387 22) 0) 24 = true then (if x_mq ((x_wA m (m.2.2.1 387 22 + 1) (m.1 (m.2.2.1 387 22) 0).toNatClampNeg l2).2.2.1 387 22) = true then (if x_mq ((x_wA m (m.2.2.1 387 22 + 1) (m.1 (m.2.2.1 387 22) 0).toNatClampNeg l2).2.2.1 387 22) = true then (if x_ix ((x_wA m (m.2.2.1 387 22 + 1) (m.1 (m.2.2.1 387 22) 0).toNatClampNeg l2).1 ((x_wA m (m.2.2.1 387 22 + 1) (m.1 (m.2.2.1 387 22) 0).toNatClampNeg l2).2.2.1 387 22) 0) 24 = true then (if x_mq ((x_wA (x_wA m (m.2.2.1 387 22 + 1) (m.1 (m.2.2.1 387 22) 0).toNatClampNeg l2) ((x_wA m (m.2.2.1 387 22 + 1) (m.1 (m.2.2.1 387 22) 0).toNatClampNeg l2).2.2.1 387 22 + 2) ((x_wA m (m.2.2.1 387 22 + 1) (m.1 (m.2.2.1 387 22) 0).toNatClampNeg l2).1 ((x_wA m (m.2.2.1 387 22 + 1) (m.1 (m.2.2.1 387 22) 0).toNatClampNeg l2).2.2.1 387 22) 0).toNatClampNeg l4).2.2.1 387 22) = true then (if x_mq ((x_wA (x_wA m (m.2.2.1 387 22 + 1) (m.1 (m.2.2.1 387 22) 0).toNatClampNeg l2) ((x_wA m (m.2.2.1 387 22 + 1) (m.1 (m.2.2.1 387 22) 0).toNatClampNeg l2).2.2.1 387 22 + 2) ((x_wA m (m.2.2.1 387 22 + 1) (m.1 (m.2.2.1 387 22) 0).toNatClampNeg l2).1 ((x_wA m (m.2.2.1 387 22 + 1) (m.1 (m.2.2.1 387 22) 0).toNatClampNeg l2).2.2.1 387 22) 0).toNatClampNeg l4).2.2.1 387 22) = true then (if x_ix ((x_wA (x_wA m (m.2.2.1 387 22 + 1) (m.1 (m.2.2.1 387 22) 0).toNatClampNeg l2) ((x_wA m (m.2.2.1 387 22 + 1) (m.1 (m.2.2.1 387 22) 0).toNatClampNeg l2).2.2.1 387 22 + 2) ((x_wA m (m.2.2.1 387 22 + 1) (m.1 (m.2.2.1 387 22) 0).toNatClampNeg l2).1 ((x_wA m (m.2.2.1 387 22 + 1) (m.1 (m.2.2.1 387 22) 0).toNatClampNeg l2).2.2.1 387 22) 0).toNatClampNeg l4).1 ((x_wA (x_wA m (m.2.2.1 387 22 + 1) (m.1 (m.2.2.1 387 22) 0).toNatClampNeg l2) ((x_wA m (m.2.2.1 387 22 + 1) (m.1 (m.2.2.1 387 22) 0).toNatClampNeg l2).2.2.1 387 22 + 2) ((x_wA m (m.2.2.1 387 22 + 1) (m.1 (m.2.2.1 387 22) 0).toNatClampNeg l2).1 ((x_wA m (m.2.2.1 387 22 + 1) (m.1 (m.2.2.1 387 22) 0).toNatClampNeg l2).2.2.1 387 22) 0).toNatClampNeg l4).2.2.1 387 22) 0) 24 = true then (if x_mq ((x_wA (x_wA (x_wA m (m.2.2.1 387 22 + 1) (m.1 (m.2.2.1 387 22) 0).toNatClampNeg l2) ((x_wA m (m.2.2.1 387 22 + 1) (m.1 (m.2.2.1 387 22) 0).toNatClampNeg l2).2.2.1 387 22 + 2) ((x_wA m (m.2.2.1 387 22 + 1) (m.1 (m.2.2.1 387 22) 0).toNatClampNeg l2).1 ((x_wA m (m.2.2.1 387 22 + 1) (m.1 (m.2.2.1 387 22) 0).toNatClampNeg l2).2.2.1 387 22) 0).toNatClampNeg l4) ((x_wA (x_wA m (m.2.2.1 387 22 + 1) (m.1 (m.2.2.1 387 22) 0).toNatClampNeg l2) ((x_wA m (m.2.2.1 387 22 + 1) (m.1 (m.2.2.1 387 22) 0).toNatClampNeg l2).2.2.1 387 22 + 2) ((x_wA m (m.2.2.1 387 22 + 1) (m.1 (m.2.2.1 387 22) 0).toNatClampNeg l2).1 ((x_wA m (m.2.2.1 387 22 + 1) (m.1 (m.2.2.1 387 22) 0).toNatClampNeg l2).2.2.1 387 22) 0).toNatClampNeg l4).2.2.1 387 22 + 3) ((x_wA (x_wA m (m.2.2.1 387 22 + 1) (m.1 (m.2.2.1 387 22) 0).toNatClampNeg l2) ((x_wA m (m.2.2.1 387 22 + 1) (m.1 (m.2.2.1 387 22) 0).toNatClampNeg l2).2.2.1 387 22 + 2) ((x_wA m (m.2.2.1 387 22 + 1) (m.1 (m.2.2.1 387 22) 0).toNatClampNeg l2).1 ((x_wA m (m.2.2.1 387 22 + 1) (m.1 (m.2.2.1 387 22) 0).toNatClampNeg l2).2.2.1 387 22) 0).toNatClampNeg l4).1 ((x_wA (x_wA m (m.2.2.1 387 22 + 1) (m.1 (m.2.2.1 387 22) 0).toNatClampNeg l2) ((x_wA m (m.2.2.1 387 22 + 1) (m.1 (m.2.2.1 387 22) 0).toNatClampNeg l2).2.2.1 387 22 + 2) ((x_wA m (m.2.2.1 387 22 + 1) (m.1 (m.2.2.1 387 22) 0).toNatClampNeg l2).1 ((x_wA m (m.2.2.1 387 22 + 1) (m.1 (m.2.2.1 387 22) 0).toNatClampNeg l2).2.2.1 387 22) 0).toNatClampNeg l4).2.2.1 387 22) 0).toNatClampNeg l1).2.2.1 387 22) = true then some (x_wS (x_wA (x_wA (x_wA m (m.2.2.1 387 22 + 1) (m.1 (m.2.2.1 387 22) 0).toNatClampNeg l2) ((x_wA m (m.2.2.1 387 22 + 1) (m.1 (m.2.2.1 387 22) 0).toNatClampNeg l2).2.2.1 387 22 + 2) ((x_wA m (m.2.2.1 387 22 + 1) (m.1 (m.2.2.1 387 22) 0).toNatClampNeg l2).1 ((x_wA m (m.2.2.1 387 22 + 1) (m.1 (m.2.2.1 387 22) 0).toNatClampNeg l2).2.2.1 387 22) 0).toNatClampNeg l4) ((x_wA (x_wA m (m.2.2.1 387 22 + 1) (m.1 (m.2.2.1 387 22) 0).toNatClampNeg l2) ((x_wA m (m.2.2.1 387 22 + 1) (m.1 (m.2.2.1 387 22) 0).toNatClampNeg l2).2.2.1 387 22 + 2) ((x_wA m (m.2.2.1 387 22 + 1) (m.1 (m.2.2.1 387 22) 0).toNatClampNeg l2).1 ((x_wA m (m.2.2.1 387 22 + 1) (m.1 (m.2.2.1 387 22) 0).toNatClampNeg l2).2.2.1 387 22) 0).toNatClampNeg l4).2.2.1 387 22 + 3) ((x_wA (x_wA m (m.2.2.1 387 22 + 1) (m.1 (m.2.2.1 387 22) 0).toNatClampNeg l2) ((x_wA m (m.2.2.1 387 22 + 1) (m.1 (m.2.2.1 387 22) 0).toNatClampNeg l2).2.2.1 387 22 + 2) ((x_wA m (m.2.2.1 387 22 + 1) (m.1 (m.2.2.1 387 22) 0).toNatClampNeg l2).1 ((x_wA m (m.2.2.1 387 22 + 1) (m.1 (m.2.2.1 387 22) 0).toNatClampNeg l2).2.2.1 387 22) 0).toNatClampNeg l4).1 ((x_wA (x_wA m (m.2.2.1 387 22 + 1) (m.1 (m.2.2.1 387 22) 0).toNatClampNeg l2) ((x_wA m (m.2.2.1 387 22 + 1) (m.1 (m.2.2.1 387 22) 0).toNatClampNeg l2).2.2.1 387 22 + 2) ((x_wA m (m.2.2.1 387 22 + 1) (m.1 (m.2.2.1 387 22) 0).toNatClampNeg l2).1 ((x_wA m (m.2.2.1 387 22 + 1) (m.1 (m.2.2.1 387 22) 0).toNatClampNeg l2).2.2.1 387 22) 0).toNatClampNeg l4).2.2.1 387 22) 0).toNatClampNeg l1) ((x_wA (x_wA (x_wA m (m.2.2.1 387 22 + 1) (m.1 (m.2.2.1 387 22) 0).toNatClampNeg l2) ((x_wA m (m.2.2.1 387 22 + 1) (m.1 (m.2.2.1 387 22) 0).toNatClampNeg l2).2.2.1 387 22 + 2) ((x_wA m (m.2.2.1 387 22 + 1) (m.1 (m.2.2.1 387 22) 0).toNatClampNeg l2).1 ((x_wA m (m.2.2.1 387 22 + 1) (m.1 (m.2.2.1 387 22) 0).toNatClampNeg l2).2.2.1 387 22) 0).toNatClampNeg l4) ((x_wA (x_wA m (m.2.2.1 387 22 + 1) (m.1 (m.2.2.1 387 22) 0).toNatClampNeg l2) ((x_wA m (m.2.2.1 387 22 + 1) (m.1 (m.2.2.1 387 22) 0).toNatClampNeg l2).2.2.1 387 22 + 2) ((x_wA m (m.2.2.1 387 22 + 1) (m.1 (m.2.2.1 387 22) 0).toNatClampNeg l2).1 ((x_wA m (m.2.2.1 387 22 + 1) (m.1 (m.2.2.1 387 22) 0).toNatClampNeg l2).2.2.1 387 22) 0).toNatClampNeg l4).2.2.1 387 22 + 3) ((x_wA (x_wA m (m.2.2.1 387 22 + 1) (m.1 (m.2.2.1 387 22) 0).toNatClampNeg l2) ((x_wA m (m.2.2.1 387 22 + 1) (m.1 (m.2.2.1 387 22) 0).toNatClampNeg l2).2.2.1 387 22 + 2) ((x_wA m (m.2.2.1 387 22 + 1) (m.1 (m.2.2.1 387 22) 0).toNatClampNeg l2).1 ((x_wA m (m.2.2.1 387 22 + 1) (m.1 (m.2.2.1 387 22) 0).toNatClampNeg l2).2.2.1 387 22) 0).toNatClampNeg l4).1 ((x_wA (x_wA m (m.2.2.1 387 22 + 1) (m.1 (m.2.2.1 387 22) 0).toNatClampNeg l2) ((x_wA m (m.2.2.1 387 22 + 1) (m.1 (m.2.2.1 387 22) 0).toNatClampNeg l2).2.2.1 387 22 + 2) ((x_wA m (m.2.2.1 387 22 + 1) (m.1 (m.2.2.1 387 22) 0).toNatClampNeg l2).1 ((x_wA m (m.2.2.1 387 22 + 1) (m.1 (m.2.2.1 387 22) 0).toNatClampNeg l2).2.2.1 387 22) 0).toNatClampNeg l4).2.2.1 387 22) 0).toNatClampNeg l1).2.2.1 387 22) 0 (((x_wA (x_wA (x_wA m (m.2.2.1 387 22 + 1) (m.1 (m.2.2.1 387 22) 0).toNatClampNeg l2) ((x_wA m (m.2.2.1 387 22 + 1) (m.1 (m.2.2.1 387 22) 0).toNatClampNeg l2).2.2.1 387 22 + 2) ((x_wA m (m.2.2.1 387 22 + 1) (m.1 (m.2.2.1 387 22) 0).toNatClampNeg l2).1 ((x_wA m (m.2.2.1 387 22 + 1) (m.1 (m.2.2.1 387 22) 0).toNatClampNeg l2).2.2.1 387 22) 0).toNatClampNeg l4) ((x_wA (x_wA m (m.2.2.1 387 22 + 1) (m.1 (m.2.2.1 387 22) 0).toNatClampNeg l2) ((x_wA m (m.2.2.1 387 22 + 1) (m.1 (m.2.2.1 387 22) 0).toNatClampNeg l2).2.2.1 387 22 + 2) ((x_wA m (m.2.2.1 387 22 + 1) (m.1 (m.2.2.1 387 22) 0).toNatClampNeg l2).1 ((x_wA m (m.2.2.1 387 22 + 1) (m.1 (m.2.2.1 387 22) 0).toNatClampNeg l2).2.2.1 387 22) 0).toNatClampNeg l4).2.2.1 387 22 + 3) ((x_wA (x_wA m (m.2.2.1 387 22 + 1) (m.1 (m.2.2.1 387 22) 0).toNatClampNeg l2) ((x_wA m (m.2.2.1 387 22 + 1) (m.1 (m.2.2.1 387 22) 0).toNatClampNeg l2).2.2.1 387 22 + 2) ((x_wA m (m.2.2.1 387 22 + 1) (m.1 (m.2.2.1 387 22) 0).toNatClampNeg l2).1 ((x_wA m (m.2.2.1 387 22 + 1) (m.1 (m.2.2.1 387 22) 0).toNatClampNeg l2).2.2.1 387 22) 0).toNatClampNeg l4).1 ((x_wA (x_wA m (m.2.2.1 387 22 + 1) (m.1 (m.2.2.1 387 22) 0).toNatClampNeg l2) ((x_wA m (m.2.2.1 387 22 + 1) (m.1 (m.2.2.1 387 22) 0).toNatClampNeg l2).2.2.1 387 22 + 2) ((x_wA m (m.2.2.1 387 22 + 1) (m.1 (m.2.2.1 387 22) 0).toNatClampNeg l2).1 ((x_wA m (m.2.2.1 387 22 + 1) (m.1 (m.2.2.1 387 22) 0).toNatClampNeg l2).2.2.1 387 22) 0).toNatClampNeg l4).2.2.1 387 22) 0).toNatClampNeg l1).1 ((x_wA (x_wA (x_wA m (m.2.2.1 387 22 + 1) (m.1 (m.2.2.1 387 22) 0).toNatClampNeg l2) ((x_wA m (m.2.2.1 387 22 + 1) (m.1 (m.2.2.1 387 22) 0).toNatClampNeg l2).2.2.1 387 22 + 2) ((x_wA m (m.2.2.1 387 22 + 1) (m.1 (m.2.2.1 387 22) 0).toNatClampNeg l2).1 ((x_wA m (m.2.2.1 387 22 + 1) (m.1 (m.2.2.1 387 22) 0).toNatClampNeg l2).2.2.1 387 22) 0).toNatClampNeg l4) ((x_wA (x_wA m (m.2.2.1 387 22 + 1) (m.1 (m.2.2.1 387 22) 0).toNatClampNeg l2) ((x_wA m (m.2.2.1 387 22 + 1) (m.1 (m.2.2.1 387 22) 0).toNatClampNeg l2).2.2.1 387 22 + 2) ((x_wA m (m.2.2.1 387 22 + 1) (m.1 (m.2.2.1 387 22) 0).toNatClampNeg l2).1 ((x_wA m (m.2.2.1 387 22 + 1) (m.1 (m.2.2.1 387 22) 0).toNatClampNeg l2).2.2.1 387 22) 0).toNatClampNeg l4).2.2.1 387 22 + 3) ((x_wA (x_wA m (m.2.2.1 387 22 + 1) (m.1 (m.2.2.1 387 22) 0).toNatClampNeg l2) ((x_wA m (m.2.2.1 387 22 + 1) (m.1 (m.2.2.1 387 22) 0).toNatClampNeg l2).2.2.1 387 22 + 2) ((x_wA m (m.2.2.1 387 22 + 1) (m.1 (m.2.2.1 387 22) 0).toNatClampNeg l2).1 ((x_wA m (m.2.2.1 387 22 + 1) (m.1 (m.2.2.1 387 22) 0).toNatClampNeg l2).2.2.1 387 22) 0).toNatClampNeg l4).1 ((x_wA (x_wA m (m.2.2.1 387 22 + 1) (m.1 (m.2.2.1 387 22) 0).toNatClampNeg l2) ((x_wA m (m.2.2.1 387 22 + 1) (m.1 (m.2.2.1 387 22) 0).toNatClampNeg l2).2.2.1 387 22 + 2) ((x_wA m (m.2.2.1 387 22 + 1) (m.1 (m.2.2.1 387 22) 0).toNatClampNeg l2).1 ((x_wA m (m.2.2.1 387 22 + 1) (m.1 (m.2.2.1 387 22) 0).toNatClampNeg l2).2.2.1 387 22) 0).toNatClampNeg l4).2.2.1 387 22) 0).toNatClampNeg l1).2.2.1 387 22) 0) + 1)) else none) else none) else none) else none) else none) else none) else none) else none) else none) else none)
theorem b_MD_item0_234 {G : x_G} {ex : Bool} {r : x_m}   {l1 : Int32} {l2 : Int32} {l4 : Int32} {m : x_m} (h : B_MD_item0_234 l1 l2 l4 m = some r) : x_W G M_MD_item0 (x_rd 8) (x_Q G (x_rd 8) ex (x_pv r)) ex x_np (x_hp m) 0 0 [(0, .ref 387), (1, .int l1), (2, .int l2), (4, .int l4)] [] 234 := by
  unfold B_MD_item0_234 at h
  refine x_aload_n d_MD_item0_234 rfl rfl ?_
  refine x_gR d_MD_item0_235 (f_MD_50 rfl) sh_MD hp_MD rfl ?_
  obtain ⟨g_235, h⟩ := x_gd h
  refine x_gCN d_MD_item0_238 (f_MD_185 rfl) (sh_MQ (x_mq_ok g_235)) (hp_MQ (x_mq_ok g_235)) rfl ?_
  refine x_aload_n d_MD_item0_241 rfl rfl ?_
  refine x_gR d_MD_item0_242 (f_MD_50 rfl) sh_MD hp_MD rfl ?_
  obtain ⟨g_242, h⟩ := x_gd h
  refine x_gIN d_MD_item0_245 (f_MD_179 rfl) (sh_MQ (x_mq_ok g_242)) (hp_MQ (x_mq_ok g_242)) rfl ?_
  refine x_iload_n d_MD_item0_248 rfl rfl ?_
  obtain ⟨g_249, h⟩ := x_gd h
  refine x_sI d_MD_item0_249 rfl (sa_MQ_kind (x_mq_ok g_235)) (ha_MQ_kind (x_mq_ok g_235)) g_249 ?_
  refine x_aload_n d_MD_item0_250 rfl rfl ?_
  refine x_gR d_MD_item0_251 (f_MD_50 rfl) sh_MD hp_MD rfl ?_
  obtain ⟨g_251, h⟩ := x_gd h
  refine x_gCN d_MD_item0_254 (f_MD_188 rfl) (sh_MQ (x_mq_ok g_251)) (hp_MQ (x_mq_ok g_251)) rfl ?_
  refine x_aload_n d_MD_item0_257 rfl rfl ?_
  refine x_gR d_MD_item0_258 (f_MD_50 rfl) sh_MD hp_MD rfl ?_
  obtain ⟨g_258, h⟩ := x_gd h
  refine x_gIN d_MD_item0_261 (f_MD_179 rfl) (sh_MQ (x_mq_ok g_258)) (hp_MQ (x_mq_ok g_258)) rfl ?_
  refine x_iload d_MD_item0_264 rfl ?_
  obtain ⟨g_266, h⟩ := x_gd h
  refine x_sI d_MD_item0_266 rfl (sa_MQ_of (x_mq_ok g_251)) (ha_MQ_of (x_mq_ok g_251)) g_266 ?_
  refine x_aload_n d_MD_item0_267 rfl rfl ?_
  refine x_gR d_MD_item0_268 (f_MD_50 rfl) sh_MD hp_MD rfl ?_
  obtain ⟨g_268, h⟩ := x_gd h
  refine x_gCN d_MD_item0_271 (f_MD_191 rfl) (sh_MQ (x_mq_ok g_268)) (hp_MQ (x_mq_ok g_268)) rfl ?_
  refine x_aload_n d_MD_item0_274 rfl rfl ?_
  refine x_gR d_MD_item0_275 (f_MD_50 rfl) sh_MD hp_MD rfl ?_
  obtain ⟨g_275, h⟩ := x_gd h
  refine x_gIN d_MD_item0_278 (f_MD_179 rfl) (sh_MQ (x_mq_ok g_275)) (hp_MQ (x_mq_ok g_275)) rfl ?_
  refine x_iload_n d_MD_item0_281 rfl rfl ?_
  obtain ⟨g_282, h⟩ := x_gd h
  refine x_sI d_MD_item0_282 rfl (sa_MQ_begins (x_mq_ok g_268)) (ha_MQ_begins (x_mq_ok g_268)) g_282 ?_
  refine x_aload_n d_MD_item0_283 rfl rfl ?_
  refine x_gR d_MD_item0_284 (f_MD_50 rfl) sh_MD hp_MD rfl ?_
  obtain ⟨g_284, h⟩ := x_gd h
  refine x_dup d_MD_item0_287 rfl ?_
  refine x_gIN d_MD_item0_288 (f_MD_179 rfl) (sh_MQ (x_mq_ok g_284)) (hp_MQ (x_mq_ok g_284)) rfl ?_
  refine x_iconst (v := 1) d_MD_item0_291 (by decide) ?_
  refine x_iadd d_MD_item0_292 ?_
  refine x_pIN d_MD_item0_293 (f_MD_179 rfl) tb_MQ rfl (sh_MQ (x_mq_ok g_284)) (hp_MQ (x_mq_ok g_284)) rfl ⟨rfl, rfl⟩ ?_
  cases h
  exact x_rv d_MD_item0_296 rfl
def B_MD_item0_226   (l1 : Int32) (l2 : Int32) (l4 : Int32) (m : x_m) : Option (x_m) := ((F_MD_needSign 41 m).bind fun r229 => B_MD_item0_234 l1 l2 l4 r229.2)
theorem b_MD_item0_226 {G : x_G} {ex : Bool} {r : x_m}   {l1 : Int32} {l2 : Int32} {l4 : Int32} {m : x_m} (h : B_MD_item0_226 l1 l2 l4 m = some r) : x_W G M_MD_item0 (x_rd 8) (x_Q G (x_rd 8) ex (x_pv r)) ex x_np (x_hp m) 0 0 [(0, .ref 387), (1, .int l1), (2, .int l2), (4, .int l4)] [] 226 := by
  unfold B_MD_item0_226 at h
  refine x_aload_n d_MD_item0_226 rfl rfl ?_
  refine x_bipush (v := 41) d_MD_item0_227 (by decide) ?_
  obtain ⟨r229, e229, h⟩ := x_bd h
  refine x_cVi (M2 := M_MD_needSign) (As := [.int 41]) (st := []) d_MD_item0_229 w_1359 k_MD_needSign (c_MD_needSign e229) rfl sh_MD hp_MD rfl ⟨Nat.le_of_ble_eq_true rfl, Nat.le_of_ble_eq_true rfl⟩ (Nat.le_of_ble_eq_true rfl) (Nat.le_of_ble_eq_true rfl) rfl ?_
  refine x_istore (lv2 := [(0, .ref 387), (1, .int l1), (2, .int l2), (4, .int l4), (5, .int r229.1)]) d_MD_item0_232 (by decide) rfl ?_
  refine x_sbk [0, 1, 2, 3] (lv2 := [(0, .ref 387), (1, .int l1), (2, .int l2), (4, .int l4)]) rfl ?_; exact b_MD_item0_234 h
def B_MD_item0_181   (l1 : Int32) (l2 : Int32) (l4 : Int32) (s0 : Int32) (m : x_m) : Option (x_m) := ((F_MD_want s0 5 (m.1 387 8) m).bind fun r186 => B_MD_item0_226 l1 l2 l4 r186.2)
theorem b_MD_item0_181 {G : x_G} {ex : Bool} {r : x_m}   {l1 : Int32} {l2 : Int32} {l4 : Int32} {s0 : Int32} {m : x_m} (h : B_MD_item0_181 l1 l2 l4 s0 m = some r) : x_W G M_MD_item0 (x_rd 8) (x_Q G (x_rd 8) ex (x_pv r)) ex x_np (x_hp m) 0 0 [(0, .ref 387), (1, .int l1), (2, .int l2), (4, .int l4)] [.int s0, .ref 387] 181 := by
  unfold B_MD_item0_181 at h
  refine x_iconst (v := 5) d_MD_item0_181 (by decide) ?_
  refine x_aload_n d_MD_item0_182 rfl rfl ?_
  refine x_gI d_MD_item0_183 (f_MD_77 rfl) sh_MD hp_MD rfl ?_
  obtain ⟨r186, e186, h⟩ := x_bd h
  refine x_cVi (M2 := M_MD_want) (As := [.int s0, .int 5, .int (m.1 387 8)]) (st := []) d_MD_item0_186 w_1315 k_MD_want (c_MD_want e186) rfl sh_MD hp_MD rfl ⟨Nat.le_of_ble_eq_true rfl, Nat.le_of_ble_eq_true rfl⟩ (Nat.le_of_ble_eq_true rfl) (Nat.le_of_ble_eq_true rfl) rfl ?_
  refine x_istore (lv2 := [(0, .ref 387), (1, .int l1), (2, .int l2), (4, .int l4), (5, .int r186.1)]) d_MD_item0_189 (by decide) rfl ?_
  refine x_goto (tgt := 226) d_MD_item0_191 (by decide) ?_
  refine x_sbk [0, 1, 2, 3] (lv2 := [(0, .ref 387), (1, .int l1), (2, .int l2), (4, .int l4)]) rfl ?_; exact b_MD_item0_226 h
def B_MD_item0_168   (l1 : Int32) (l2 : Int32) (s0 : Int32) (m : x_m) : Option (x_m) := (if s0 < 0 then B_MD_item0_181 l1 l2 s0 0 m else B_MD_item0_181 l1 l2 s0 1 m)
theorem b_MD_item0_168 {G : x_G} {ex : Bool} {r : x_m}   {l1 : Int32} {l2 : Int32} {s0 : Int32} {m : x_m} (h : B_MD_item0_168 l1 l2 s0 m = some r) : x_W G M_MD_item0 (x_rd 8) (x_Q G (x_rd 8) ex (x_pv r)) ex x_np (x_hp m) 0 0 [(0, .ref 387), (1, .int l1), (2, .int l2)] [.int s0] 168 := by
  unfold B_MD_item0_168 at h
  refine x_istore (lv2 := [(0, .ref 387), (1, .int l1), (2, .int l2), (4, .int s0)]) d_MD_item0_168 (by decide) rfl ?_
  refine x_aload_n d_MD_item0_170 rfl rfl ?_
  refine x_iload d_MD_item0_171 rfl ?_
  refine x_if_lt (tgt := 180) d_MD_item0_173 (by decide) (fun c_ => ?_) (fun c_ => ?_)
  · replace h := x_it h c_
    refine x_iconst (v := 0) d_MD_item0_180 (by decide) ?_
    exact b_MD_item0_181 h
  · replace h := x_ie h c_
    refine x_iconst (v := 1) d_MD_item0_176 (by decide) ?_
    refine x_goto (tgt := 181) d_MD_item0_177 (by decide) ?_
    exact b_MD_item0_181 h
def B_MD_item0_103   (l1 : Int32) (l2 : Int32) (l3 : Int32) (s0 : Int32) (m : x_m) : Option (x_m) := ((F_MD_want s0 7 l1 m).bind fun r106 => (if r106.1 = 0 then some r106.2 else (if l2 = 0 then ((F_MD_columnsLevel l3 r106.2).bind fun r122 => B_MD_item0_234 l1 l2 r122.1 r122.2) else ((F_MD_needSign 40 r106.2).bind fun r133 => ((F_MD_read r133.2).bind fun r139 => (if 4 ≤ l2 then (if l2 = 4 then ((F_MD_isSign 42 r139).bind fun r203 => ((F_MD_must r203.1 r203.2).bind fun r206 => B_MD_item0_226 l1 l2 0 r206.2)) else ((F_MD_columnsDimension r139).bind fun r215 => ((F_MD_columnsLevel r215.1 r215.2).bind fun r221 => B_MD_item0_226 l1 l2 r221.1 r221.2))) else ((F_MD_name r139).bind fun r148 => (if r148.1 = 0 then B_MD_item0_168 l1 l2 0 r148.2 else ((F_MD_among 40 (r148.2.1 387 18) r148.2).bind fun r161 => B_MD_item0_168 l1 l2 r161.1 r161.2)))))))))
theorem b_MD_item0_103 {G : x_G} {ex : Bool} {r : x_m}   {l1 : Int32} {l2 : Int32} {l3 : Int32} {s0 : Int32} {m : x_m} (h : B_MD_item0_103 l1 l2 l3 s0 m = some r) : x_W G M_MD_item0 (x_rd 8) (x_Q G (x_rd 8) ex (x_pv r)) ex x_np (x_hp m) 0 0 [(0, .ref 387), (1, .int l1), (2, .int l2), (3, .int l3)] [.int s0, .ref 387] 103 := by
  unfold B_MD_item0_103 at h
  refine x_bipush (v := 7) d_MD_item0_103 (by decide) ?_
  refine x_iload_n d_MD_item0_105 rfl rfl ?_
  obtain ⟨r106, e106, h⟩ := x_bd h
  refine x_cVi (M2 := M_MD_want) (As := [.int s0, .int 7, .int l1]) (st := []) d_MD_item0_106 w_1315 k_MD_want (c_MD_want e106) rfl sh_MD hp_MD rfl ⟨Nat.le_of_ble_eq_true rfl, Nat.le_of_ble_eq_true rfl⟩ (Nat.le_of_ble_eq_true rfl) (Nat.le_of_ble_eq_true rfl) rfl ?_
  refine x_if_ne (tgt := 113) d_MD_item0_109 (by decide) (fun c_ => ?_) (fun c_ => ?_)
  · replace h := x_ie h c_
    refine x_iconst (v := 0) d_MD_item0_113 (by decide) ?_
    refine x_istore (lv2 := [(0, .ref 387), (1, .int l1), (2, .int l2), (3, .int l3), (4, .int 0)]) d_MD_item0_114 (by decide) rfl ?_
    refine x_iload_n d_MD_item0_116 rfl rfl ?_
    refine x_if_ne (tgt := 130) d_MD_item0_117 (by decide) (fun c_ => ?_) (fun c_ => ?_)
    · replace h := x_ie h c_
      refine x_aload_n d_MD_item0_130 rfl rfl ?_
      refine x_bipush (v := 40) d_MD_item0_131 (by decide) ?_
      obtain ⟨r133, e133, h⟩ := x_bd h
      refine x_cVi (M2 := M_MD_needSign) (As := [.int 40]) (st := []) d_MD_item0_133 w_1359 k_MD_needSign (c_MD_needSign e133) rfl sh_MD hp_MD rfl ⟨Nat.le_of_ble_eq_true rfl, Nat.le_of_ble_eq_true rfl⟩ (Nat.le_of_ble_eq_true rfl) (Nat.le_of_ble_eq_true rfl) rfl ?_
      refine x_istore (lv2 := [(0, .ref 387), (1, .int l1), (2, .int l2), (3, .int l3), (4, .int 0), (5, .int r133.1)]) d_MD_item0_136 (by decide) rfl ?_
      refine x_aload_n d_MD_item0_138 rfl rfl ?_
      obtain ⟨r139, e139, h⟩ := x_bd h
      refine x_cVv (M2 := M_MD_read) (As := []) (st := []) d_MD_item0_139 w_1240 k_MD_read (c_MD_read e139) rfl sh_MD hp_MD rfl ⟨Nat.le_of_ble_eq_true rfl, Nat.le_of_ble_eq_true rfl⟩ (Nat.le_of_ble_eq_true rfl) (Nat.le_of_ble_eq_true rfl) rfl ?_
      refine x_iload_n d_MD_item0_142 rfl rfl ?_
      refine x_iconst (v := 4) d_MD_item0_143 (by decide) ?_
      refine x_icmp_ge (tgt := 194) d_MD_item0_144 (by decide) (fun c_ => ?_) (fun c_ => ?_)
      · replace h := x_it h c_
        refine x_iload_n d_MD_item0_194 rfl rfl ?_
        refine x_iconst (v := 4) d_MD_item0_195 (by decide) ?_
        refine x_icmp_ne (tgt := 214) d_MD_item0_196 (by decide) (fun c_ => ?_) (fun c_ => ?_)
        · replace h := x_ie h c_
          refine x_aload_n d_MD_item0_214 rfl rfl ?_
          obtain ⟨r215, e215, h⟩ := x_bd h
          refine x_cVi (M2 := M_MD_columnsDimension) (As := []) (st := []) d_MD_item0_215 w_1387 k_MD_columnsDimension (c_MD_columnsDimension e215) rfl sh_MD hp_MD rfl ⟨Nat.le_of_ble_eq_true rfl, Nat.le_of_ble_eq_true rfl⟩ (Nat.le_of_ble_eq_true rfl) (Nat.le_of_ble_eq_true rfl) rfl ?_
          refine x_istore_n (lv2 := [(0, .ref 387), (1, .int l1), (2, .int l2), (3, .int r215.1), (4, .int 0), (5, .int r133.1)]) d_MD_item0_218 rfl (by decide) rfl ?_
          refine x_aload_n d_MD_item0_219 rfl rfl ?_
          refine x_iload_n d_MD_item0_220 rfl rfl ?_
          obtain ⟨r221, e221, h⟩ := x_bd h
          refine x_cVi (M2 := M_MD_columnsLevel) (As := [.int r215.1]) (st := []) d_MD_item0_221 w_1391 k_MD_columnsLevel (c_MD_columnsLevel e221) rfl sh_MD hp_MD rfl ⟨Nat.le_of_ble_eq_true rfl, Nat.le_of_ble_eq_true rfl⟩ (Nat.le_of_ble_eq_true rfl) (Nat.le_of_ble_eq_true rfl) rfl ?_
          refine x_istore (lv2 := [(0, .ref 387), (1, .int l1), (2, .int l2), (3, .int r215.1), (4, .int r221.1), (5, .int r133.1)]) d_MD_item0_224 (by decide) rfl ?_
          refine x_sbk [0, 1, 2, 4] (lv2 := [(0, .ref 387), (1, .int l1), (2, .int l2), (4, .int r221.1)]) rfl ?_; exact b_MD_item0_226 h
        · replace h := x_it h c_
          refine x_aload_n d_MD_item0_199 rfl rfl ?_
          refine x_aload_n d_MD_item0_200 rfl rfl ?_
          refine x_bipush (v := 42) d_MD_item0_201 (by decide) ?_
          obtain ⟨r203, e203, h⟩ := x_bd h
          refine x_cVi (M2 := M_MD_isSign) (As := [.int 42]) (st := [.ref 387]) d_MD_item0_203 w_1363 k_MD_isSign (c_MD_isSign e203) rfl sh_MD hp_MD rfl ⟨Nat.le_of_ble_eq_true rfl, Nat.le_of_ble_eq_true rfl⟩ (Nat.le_of_ble_eq_true rfl) (Nat.le_of_ble_eq_true rfl) rfl ?_
          obtain ⟨r206, e206, h⟩ := x_bd h
          refine x_cVi (M2 := M_MD_must) (As := [.int r203.1]) (st := []) d_MD_item0_206 w_1331 k_MD_must (c_MD_must e206) rfl sh_MD hp_MD rfl ⟨Nat.le_of_ble_eq_true rfl, Nat.le_of_ble_eq_true rfl⟩ (Nat.le_of_ble_eq_true rfl) (Nat.le_of_ble_eq_true rfl) rfl ?_
          refine x_istore (lv2 := [(0, .ref 387), (1, .int l1), (2, .int l2), (3, .int l3), (4, .int 0), (5, .int r206.1)]) d_MD_item0_209 (by decide) rfl ?_
          refine x_goto (tgt := 226) d_MD_item0_211 (by decide) ?_
          refine x_sbk [0, 1, 2, 4] (lv2 := [(0, .ref 387), (1, .int l1), (2, .int l2), (4, .int 0)]) rfl ?_; exact b_MD_item0_226 h
      · replace h := x_ie h c_
        refine x_aload_n d_MD_item0_147 rfl rfl ?_
        obtain ⟨r148, e148, h⟩ := x_bd h
        refine x_cVi (M2 := M_MD_name) (As := []) (st := []) d_MD_item0_148 w_1343 k_MD_name (c_MD_name e148) rfl sh_MD hp_MD rfl ⟨Nat.le_of_ble_eq_true rfl, Nat.le_of_ble_eq_true rfl⟩ (Nat.le_of_ble_eq_true rfl) (Nat.le_of_ble_eq_true rfl) rfl ?_
        refine x_if_eq (tgt := 167) d_MD_item0_151 (by decide) (fun c_ => ?_) (fun c_ => ?_)
        · replace h := x_it h c_
          refine x_iconst (v := 0) d_MD_item0_167 (by decide) ?_
          refine x_sbk [0, 1, 2] (lv2 := [(0, .ref 387), (1, .int l1), (2, .int l2)]) rfl ?_; exact b_MD_item0_168 h
        · replace h := x_ie h c_
          refine x_aload_n d_MD_item0_154 rfl rfl ?_
          refine x_bipush (v := 40) d_MD_item0_155 (by decide) ?_
          refine x_aload_n d_MD_item0_157 rfl rfl ?_
          refine x_gI d_MD_item0_158 (f_MD_157 rfl) sh_MD hp_MD rfl ?_
          obtain ⟨r161, e161, h⟩ := x_bd h
          refine x_cVi (M2 := M_MD_among) (As := [.int 40, .int (r148.2.1 387 18)]) (st := []) d_MD_item0_161 w_1347 k_MD_among (c_MD_among e161) rfl sh_MD hp_MD rfl ⟨Nat.le_of_ble_eq_true rfl, Nat.le_of_ble_eq_true rfl⟩ (Nat.le_of_ble_eq_true rfl) (Nat.le_of_ble_eq_true rfl) rfl ?_
          refine x_goto (tgt := 168) d_MD_item0_164 (by decide) ?_
          refine x_sbk [0, 1, 2] (lv2 := [(0, .ref 387), (1, .int l1), (2, .int l2)]) rfl ?_; exact b_MD_item0_168 h
    · replace h := x_it h c_
      refine x_aload_n d_MD_item0_120 rfl rfl ?_
      refine x_iload_n d_MD_item0_121 rfl rfl ?_
      obtain ⟨r122, e122, h⟩ := x_bd h
      refine x_cVi (M2 := M_MD_columnsLevel) (As := [.int l3]) (st := []) d_MD_item0_122 w_1391 k_MD_columnsLevel (c_MD_columnsLevel e122) rfl sh_MD hp_MD rfl ⟨Nat.le_of_ble_eq_true rfl, Nat.le_of_ble_eq_true rfl⟩ (Nat.le_of_ble_eq_true rfl) (Nat.le_of_ble_eq_true rfl) rfl ?_
      refine x_istore (lv2 := [(0, .ref 387), (1, .int l1), (2, .int l2), (3, .int l3), (4, .int r122.1)]) d_MD_item0_125 (by decide) rfl ?_
      refine x_goto (tgt := 234) d_MD_item0_127 (by decide) ?_
      refine x_sbk [0, 1, 2, 4] (lv2 := [(0, .ref 387), (1, .int l1), (2, .int l2), (4, .int r122.1)]) rfl ?_; exact b_MD_item0_234 h
  · replace h := x_it h c_
    cases h
    exact x_rv d_MD_item0_112 rfl
def B_MD_item0_84   (l1 : Int32) (l2 : Int32) (s0 : Int32) (m : x_m) : Option (x_m) := (if x_mq (m.2.2.1 387 22) = true then (if 24 ≤ (m.1 (m.2.2.1 387 22) 0) then B_MD_item0_103 l1 l2 s0 0 m else B_MD_item0_103 l1 l2 s0 1 m) else none)
theorem b_MD_item0_84 {G : x_G} {ex : Bool} {r : x_m}   {l1 : Int32} {l2 : Int32} {s0 : Int32} {m : x_m} (h : B_MD_item0_84 l1 l2 s0 m = some r) : x_W G M_MD_item0 (x_rd 8) (x_Q G (x_rd 8) ex (x_pv r)) ex x_np (x_hp m) 0 0 [(0, .ref 387), (1, .int l1), (2, .int l2)] [.int s0] 84 := by
  unfold B_MD_item0_84 at h
  refine x_istore_n (lv2 := [(0, .ref 387), (1, .int l1), (2, .int l2), (3, .int s0)]) d_MD_item0_84 rfl (by decide) rfl ?_
  refine x_aload_n d_MD_item0_85 rfl rfl ?_
  refine x_aload_n d_MD_item0_86 rfl rfl ?_
  refine x_gR d_MD_item0_87 (f_MD_50 rfl) sh_MD hp_MD rfl ?_
  obtain ⟨g_87, h⟩ := x_gd h
  refine x_gIN d_MD_item0_90 (f_MD_179 rfl) (sh_MQ (x_mq_ok g_87)) (hp_MQ (x_mq_ok g_87)) rfl ?_
  refine x_bipush (v := 24) d_MD_item0_93 (by decide) ?_
  refine x_icmp_ge (tgt := 102) d_MD_item0_95 (by decide) (fun c_ => ?_) (fun c_ => ?_)
  · replace h := x_it h c_
    refine x_iconst (v := 0) d_MD_item0_102 (by decide) ?_
    exact b_MD_item0_103 h
  · replace h := x_ie h c_
    refine x_iconst (v := 1) d_MD_item0_98 (by decide) ?_
    refine x_goto (tgt := 103) d_MD_item0_99 (by decide) ?_
    exact b_MD_item0_103 h
def B_MD_item0_71   (l1 : Int32) (s0 : Int32) (m : x_m) : Option (x_m) := (if s0 = 0 then ((F_MD_columnsDimension m).bind fun r77 => B_MD_item0_84 l1 s0 r77.1 r77.2) else B_MD_item0_84 l1 s0 0 m)
theorem b_MD_item0_71 {G : x_G} {ex : Bool} {r : x_m}   {l1 : Int32} {s0 : Int32} {m : x_m} (h : B_MD_item0_71 l1 s0 m = some r) : x_W G M_MD_item0 (x_rd 8) (x_Q G (x_rd 8) ex (x_pv r)) ex x_np (x_hp m) 0 0 [(0, .ref 387), (1, .int l1)] [.int s0] 71 := by
  unfold B_MD_item0_71 at h
  refine x_istore_n (lv2 := [(0, .ref 387), (1, .int l1), (2, .int s0)]) d_MD_item0_71 rfl (by decide) rfl ?_
  refine x_iload_n d_MD_item0_72 rfl rfl ?_
  refine x_if_ne (tgt := 83) d_MD_item0_73 (by decide) (fun c_ => ?_) (fun c_ => ?_)
  · replace h := x_ie h c_
    refine x_iconst (v := 0) d_MD_item0_83 (by decide) ?_
    exact b_MD_item0_84 h
  · replace h := x_it h c_
    refine x_aload_n d_MD_item0_76 rfl rfl ?_
    obtain ⟨r77, e77, h⟩ := x_bd h
    refine x_cVi (M2 := M_MD_columnsDimension) (As := []) (st := []) d_MD_item0_77 w_1387 k_MD_columnsDimension (c_MD_columnsDimension e77) rfl sh_MD hp_MD rfl ⟨Nat.le_of_ble_eq_true rfl, Nat.le_of_ble_eq_true rfl⟩ (Nat.le_of_ble_eq_true rfl) (Nat.le_of_ble_eq_true rfl) rfl ?_
    refine x_goto (tgt := 84) d_MD_item0_80 (by decide) ?_
    exact b_MD_item0_84 h
def F_MD_item0   (m : x_m) : Option (x_m) := ((F_MD_isWord 10 m).bind fun r8 => (if r8.1 = 0 then ((F_MD_isWord 12 r8.2).bind fun r21 => (if r21.1 = 0 then ((F_MD_isWord 13 r21.2).bind fun r34 => (if r34.1 = 0 then ((F_MD_isWord 11 r34.2).bind fun r47 => (if r47.1 = 0 then ((F_MD_isWord 9 r47.2).bind fun r60 => (if r60.1 = 0 then B_MD_item0_71 (m.1 387 8) 0 r60.2 else B_MD_item0_71 (m.1 387 8) 5 r60.2)) else B_MD_item0_71 (m.1 387 8) 4 r47.2)) else B_MD_item0_71 (m.1 387 8) 3 r34.2)) else B_MD_item0_71 (m.1 387 8) 2 r21.2)) else B_MD_item0_71 (m.1 387 8) 1 r8.2))
theorem c_MD_item0 {G : x_G} {ex : Bool} {r : x_m}   {m : x_m} (h : F_MD_item0 m = some r) : x_R G M_MD_item0 (x_rd 8) ex [.ref 387] x_np (x_hp m) (x_pv r) := by
  unfold F_MD_item0 at h
  show x_W G M_MD_item0 (x_rd 8) (x_Q G (x_rd 8) ex (x_pv r)) ex x_np (x_hp m) 0 0 [(0, .ref 387)] [] 0
  refine x_aload_n d_MD_item0_0 rfl rfl ?_
  refine x_gI d_MD_item0_1 (f_MD_77 rfl) sh_MD hp_MD rfl ?_
  refine x_istore_n (lv2 := [(0, .ref 387), (1, .int (m.1 387 8))]) d_MD_item0_4 rfl (by decide) rfl ?_
  refine x_aload_n d_MD_item0_5 rfl rfl ?_
  refine x_bipush (v := 10) d_MD_item0_6 (by decide) ?_
  obtain ⟨r8, e8, h⟩ := x_bd h
  refine x_cVi (M2 := M_MD_isWord) (As := [.int 10]) (st := []) d_MD_item0_8 w_1327 k_MD_isWord (c_MD_isWord e8) rfl sh_MD hp_MD rfl ⟨Nat.le_of_ble_eq_true rfl, Nat.le_of_ble_eq_true rfl⟩ (Nat.le_of_ble_eq_true rfl) (Nat.le_of_ble_eq_true rfl) rfl ?_
  refine x_if_eq (tgt := 18) d_MD_item0_11 (by decide) (fun c_ => ?_) (fun c_ => ?_)
  · replace h := x_it h c_
    refine x_aload_n d_MD_item0_18 rfl rfl ?_
    refine x_bipush (v := 12) d_MD_item0_19 (by decide) ?_
    obtain ⟨r21, e21, h⟩ := x_bd h
    refine x_cVi (M2 := M_MD_isWord) (As := [.int 12]) (st := []) d_MD_item0_21 w_1327 k_MD_isWord (c_MD_isWord e21) rfl sh_MD hp_MD rfl ⟨Nat.le_of_ble_eq_true rfl, Nat.le_of_ble_eq_true rfl⟩ (Nat.le_of_ble_eq_true rfl) (Nat.le_of_ble_eq_true rfl) rfl ?_
    refine x_if_eq (tgt := 31) d_MD_item0_24 (by decide) (fun c_ => ?_) (fun c_ => ?_)
    · replace h := x_it h c_
      refine x_aload_n d_MD_item0_31 rfl rfl ?_
      refine x_bipush (v := 13) d_MD_item0_32 (by decide) ?_
      obtain ⟨r34, e34, h⟩ := x_bd h
      refine x_cVi (M2 := M_MD_isWord) (As := [.int 13]) (st := []) d_MD_item0_34 w_1327 k_MD_isWord (c_MD_isWord e34) rfl sh_MD hp_MD rfl ⟨Nat.le_of_ble_eq_true rfl, Nat.le_of_ble_eq_true rfl⟩ (Nat.le_of_ble_eq_true rfl) (Nat.le_of_ble_eq_true rfl) rfl ?_
      refine x_if_eq (tgt := 44) d_MD_item0_37 (by decide) (fun c_ => ?_) (fun c_ => ?_)
      · replace h := x_it h c_
        refine x_aload_n d_MD_item0_44 rfl rfl ?_
        refine x_bipush (v := 11) d_MD_item0_45 (by decide) ?_
        obtain ⟨r47, e47, h⟩ := x_bd h
        refine x_cVi (M2 := M_MD_isWord) (As := [.int 11]) (st := []) d_MD_item0_47 w_1327 k_MD_isWord (c_MD_isWord e47) rfl sh_MD hp_MD rfl ⟨Nat.le_of_ble_eq_true rfl, Nat.le_of_ble_eq_true rfl⟩ (Nat.le_of_ble_eq_true rfl) (Nat.le_of_ble_eq_true rfl) rfl ?_
        refine x_if_eq (tgt := 57) d_MD_item0_50 (by decide) (fun c_ => ?_) (fun c_ => ?_)
        · replace h := x_it h c_
          refine x_aload_n d_MD_item0_57 rfl rfl ?_
          refine x_bipush (v := 9) d_MD_item0_58 (by decide) ?_
          obtain ⟨r60, e60, h⟩ := x_bd h
          refine x_cVi (M2 := M_MD_isWord) (As := [.int 9]) (st := []) d_MD_item0_60 w_1327 k_MD_isWord (c_MD_isWord e60) rfl sh_MD hp_MD rfl ⟨Nat.le_of_ble_eq_true rfl, Nat.le_of_ble_eq_true rfl⟩ (Nat.le_of_ble_eq_true rfl) (Nat.le_of_ble_eq_true rfl) rfl ?_
          refine x_if_eq (tgt := 70) d_MD_item0_63 (by decide) (fun c_ => ?_) (fun c_ => ?_)
          · replace h := x_it h c_
            refine x_iconst (v := 0) d_MD_item0_70 (by decide) ?_
            exact b_MD_item0_71 h
          · replace h := x_ie h c_
            refine x_iconst (v := 5) d_MD_item0_66 (by decide) ?_
            refine x_goto (tgt := 71) d_MD_item0_67 (by decide) ?_
            exact b_MD_item0_71 h
        · replace h := x_ie h c_
          refine x_iconst (v := 4) d_MD_item0_53 (by decide) ?_
          refine x_goto (tgt := 71) d_MD_item0_54 (by decide) ?_
          exact b_MD_item0_71 h
      · replace h := x_ie h c_
        refine x_iconst (v := 3) d_MD_item0_40 (by decide) ?_
        refine x_goto (tgt := 71) d_MD_item0_41 (by decide) ?_
        exact b_MD_item0_71 h
    · replace h := x_ie h c_
      refine x_iconst (v := 2) d_MD_item0_27 (by decide) ?_
      refine x_goto (tgt := 71) d_MD_item0_28 (by decide) ?_
      exact b_MD_item0_71 h
  · replace h := x_ie h c_
    refine x_iconst (v := 1) d_MD_item0_14 (by decide) ?_
    refine x_goto (tgt := 71) d_MD_item0_15 (by decide) ?_
    exact b_MD_item0_71 h
def B_MD_spread_167 (q1 : Nat) (K14 : Int32 → x_m → Option (x_m)) (l2 : Int32) (m : x_m) : Option (x_m) := K14 (l2 + (-1)) m
theorem b_MD_spread_167 {G : x_G} {ex : Bool} {r : x_m} {q1 : Nat} (hq1 : x_MQ q1) {K14 : Int32 → x_m → Option (x_m)} (hK14 : ∀ (l2 : Int32) (m : x_m), K14 l2 m = some r → x_W G M_MD_spread (x_rd 0) (x_Q G (x_rd 0) ex (x_pv r)) ex x_np (x_hp m) 0 0 [(1, .ref q1), (2, .int l2)] [] 14) {l2 : Int32} {m : x_m} (h : B_MD_spread_167 q1 K14 l2 m = some r) : x_W G M_MD_spread (x_rd 0) (x_Q G (x_rd 0) ex (x_pv r)) ex x_np (x_hp m) 0 0 [(1, .ref q1), (2, .int l2)] [] 167 := by
  unfold B_MD_spread_167 at h
  refine x_iinc (v := l2 + (-1)) (lv2 := [(1, .ref q1), (2, .int (l2 + (-1)))]) d_MD_spread_167 rfl rfl (by decide) rfl ?_
  refine x_goto (tgt := 14) d_MD_spread_170 (by decide) ?_
  exact hK14 _ _ h
def B_MD_spread_124 (q1 : Nat) (K14 : Int32 → x_m → Option (x_m)) (K26 : Int32 → Int32 → Int32 → Int32 → x_m → Option (x_m)) (l2 : Int32) (l4 : Int32) (l5 : Int32) (s0 : Int32) (m : x_m) : Option (x_m) := (if x_ix l5 8 = true then K26 l2 s0 (l4 + (m.2.1 (q1 + 6) l5.toNatClampNeg)) (l5 + 1) m else none)
theorem b_MD_spread_124 {G : x_G} {ex : Bool} {r : x_m} {q1 : Nat} (hq1 : x_MQ q1) {K14 : Int32 → x_m → Option (x_m)} (hK14 : ∀ (l2 : Int32) (m : x_m), K14 l2 m = some r → x_W G M_MD_spread (x_rd 0) (x_Q G (x_rd 0) ex (x_pv r)) ex x_np (x_hp m) 0 0 [(1, .ref q1), (2, .int l2)] [] 14) {K26 : Int32 → Int32 → Int32 → Int32 → x_m → Option (x_m)} (hK26 : ∀ (l2 : Int32) (l3 : Int32) (l4 : Int32) (l5 : Int32) (m : x_m), K26 l2 l3 l4 l5 m = some r → x_W G M_MD_spread (x_rd 0) (x_Q G (x_rd 0) ex (x_pv r)) ex x_np (x_hp m) 0 0 [(1, .ref q1), (2, .int l2), (3, .int l3), (4, .int l4), (5, .int l5)] [] 26) {l2 : Int32} {l4 : Int32} {l5 : Int32} {s0 : Int32} {m : x_m} (h : B_MD_spread_124 q1 K14 K26 l2 l4 l5 s0 m = some r) : x_W G M_MD_spread (x_rd 0) (x_Q G (x_rd 0) ex (x_pv r)) ex x_np (x_hp m) 0 0 [(1, .ref q1), (2, .int l2), (4, .int l4), (5, .int l5)] [.int s0] 124 := by
  unfold B_MD_spread_124 at h
  refine x_istore_n (lv2 := [(1, .ref q1), (2, .int l2), (3, .int s0), (4, .int l4), (5, .int l5)]) d_MD_spread_124 rfl (by decide) rfl ?_
  refine x_iload d_MD_spread_125 rfl ?_
  refine x_aload_n d_MD_spread_127 rfl rfl ?_
  refine x_gCN d_MD_spread_128 (f_MD_255 rfl) (sh_MQ hq1) (hp_MQ hq1) rfl ?_
  refine x_iload d_MD_spread_131 rfl ?_
  obtain ⟨g_133, h⟩ := x_gd h
  refine x_lI d_MD_spread_133 rfl (sa_MQ_partSize hq1) (ha_MQ_partSize hq1) g_133 ?_
  refine x_iadd d_MD_spread_134 ?_
  refine x_istore (lv2 := [(1, .ref q1), (2, .int l2), (3, .int s0), (4, .int (l4 + (m.2.1 (q1 + 6) l5.toNatClampNeg))), (5, .int l5)]) d_MD_spread_135 (by decide) rfl ?_
  refine x_iinc (v := l5 + 1) (lv2 := [(1, .ref q1), (2, .int l2), (3, .int s0), (4, .int (l4 + (m.2.1 (q1 + 6) l5.toNatClampNeg))), (5, .int (l5 + 1))]) d_MD_spread_137 rfl rfl (by decide) rfl ?_
  refine x_goto (tgt := 26) d_MD_spread_140 (by decide) ?_
  exact hK26 _ _ _ _ _ h
def B_MD_spread_123 (q1 : Nat) (K14 : Int32 → x_m → Option (x_m)) (K26 : Int32 → Int32 → Int32 → Int32 → x_m → Option (x_m)) (l2 : Int32) (l4 : Int32) (l5 : Int32) (m : x_m) : Option (x_m) := B_MD_spread_124 q1 K14 K26 l2 l4 l5 0 m
theorem b_MD_spread_123 {G : x_G} {ex : Bool} {r : x_m} {q1 : Nat} (hq1 : x_MQ q1) {K14 : Int32 → x_m → Option (x_m)} (hK14 : ∀ (l2 : Int32) (m : x_m), K14 l2 m = some r → x_W G M_MD_spread (x_rd 0) (x_Q G (x_rd 0) ex (x_pv r)) ex x_np (x_hp m) 0 0 [(1, .ref q1), (2, .int l2)] [] 14) {K26 : Int32 → Int32 → Int32 → Int32 → x_m → Option (x_m)} (hK26 : ∀ (l2 : Int32) (l3 : Int32) (l4 : Int32) (l5 : Int32) (m : x_m), K26 l2 l3 l4 l5 m = some r → x_W G M_MD_spread (x_rd 0) (x_Q G (x_rd 0) ex (x_pv r)) ex x_np (x_hp m) 0 0 [(1, .ref q1), (2, .int l2), (3, .int l3), (4, .int l4), (5, .int l5)] [] 26) {l2 : Int32} {l4 : Int32} {l5 : Int32} {m : x_m} (h : B_MD_spread_123 q1 K14 K26 l2 l4 l5 m = some r) : x_W G M_MD_spread (x_rd 0) (x_Q G (x_rd 0) ex (x_pv r)) ex x_np (x_hp m) 0 0 [(1, .ref q1), (2, .int l2), (4, .int l4), (5, .int l5)] [] 123 := by
  unfold B_MD_spread_123 at h
  refine x_iconst (v := 0) d_MD_spread_123 (by decide) ?_
  exact b_MD_spread_124 hq1 hK14 hK26 h
def B_MD_spread_119 (q1 : Nat) (K14 : Int32 → x_m → Option (x_m)) (K26 : Int32 → Int32 → Int32 → Int32 → x_m → Option (x_m)) (l2 : Int32) (l4 : Int32) (l5 : Int32) (m : x_m) : Option (x_m) := B_MD_spread_124 q1 K14 K26 l2 l4 l5 1 m
theorem b_MD_spread_119 {G : x_G} {ex : Bool} {r : x_m} {q1 : Nat} (hq1 : x_MQ q1) {K14 : Int32 → x_m → Option (x_m)} (hK14 : ∀ (l2 : Int32) (m : x_m), K14 l2 m = some r → x_W G M_MD_spread (x_rd 0) (x_Q G (x_rd 0) ex (x_pv r)) ex x_np (x_hp m) 0 0 [(1, .ref q1), (2, .int l2)] [] 14) {K26 : Int32 → Int32 → Int32 → Int32 → x_m → Option (x_m)} (hK26 : ∀ (l2 : Int32) (l3 : Int32) (l4 : Int32) (l5 : Int32) (m : x_m), K26 l2 l3 l4 l5 m = some r → x_W G M_MD_spread (x_rd 0) (x_Q G (x_rd 0) ex (x_pv r)) ex x_np (x_hp m) 0 0 [(1, .ref q1), (2, .int l2), (3, .int l3), (4, .int l4), (5, .int l5)] [] 26) {l2 : Int32} {l4 : Int32} {l5 : Int32} {m : x_m} (h : B_MD_spread_119 q1 K14 K26 l2 l4 l5 m = some r) : x_W G M_MD_spread (x_rd 0) (x_Q G (x_rd 0) ex (x_pv r)) ex x_np (x_hp m) 0 0 [(1, .ref q1), (2, .int l2), (4, .int l4), (5, .int l5)] [] 119 := by
  unfold B_MD_spread_119 at h
  refine x_iconst (v := 1) d_MD_spread_119 (by decide) ?_
  refine x_goto (tgt := 124) d_MD_spread_120 (by decide) ?_
  exact b_MD_spread_124 hq1 hK14 hK26 h
def B_MD_spread_98 (q1 : Nat) (K14 : Int32 → x_m → Option (x_m)) (K26 : Int32 → Int32 → Int32 → Int32 → x_m → Option (x_m)) (l2 : Int32) (l4 : Int32) (l5 : Int32) (l6 : Int32) (m : x_m) : Option (x_m) := (if x_ix l5 8 = true then (if (m.2.1 (q1 + 5) l5.toNatClampNeg) = 1 then (if (l6 &&& (l6 + 1)) = 0 then B_MD_spread_119 q1 K14 K26 l2 l4 l5 m else B_MD_spread_123 q1 K14 K26 l2 l4 l5 m) else B_MD_spread_123 q1 K14 K26 l2 l4 l5 m) else none)
theorem b_MD_spread_98 {G : x_G} {ex : Bool} {r : x_m} {q1 : Nat} (hq1 : x_MQ q1) {K14 : Int32 → x_m → Option (x_m)} (hK14 : ∀ (l2 : Int32) (m : x_m), K14 l2 m = some r → x_W G M_MD_spread (x_rd 0) (x_Q G (x_rd 0) ex (x_pv r)) ex x_np (x_hp m) 0 0 [(1, .ref q1), (2, .int l2)] [] 14) {K26 : Int32 → Int32 → Int32 → Int32 → x_m → Option (x_m)} (hK26 : ∀ (l2 : Int32) (l3 : Int32) (l4 : Int32) (l5 : Int32) (m : x_m), K26 l2 l3 l4 l5 m = some r → x_W G M_MD_spread (x_rd 0) (x_Q G (x_rd 0) ex (x_pv r)) ex x_np (x_hp m) 0 0 [(1, .ref q1), (2, .int l2), (3, .int l3), (4, .int l4), (5, .int l5)] [] 26) {l2 : Int32} {l4 : Int32} {l5 : Int32} {l6 : Int32} {m : x_m} (h : B_MD_spread_98 q1 K14 K26 l2 l4 l5 l6 m = some r) : x_W G M_MD_spread (x_rd 0) (x_Q G (x_rd 0) ex (x_pv r)) ex x_np (x_hp m) 0 0 [(1, .ref q1), (2, .int l2), (4, .int l4), (5, .int l5), (6, .int l6)] [] 98 := by
  unfold B_MD_spread_98 at h
  refine x_aload_n d_MD_spread_98 rfl rfl ?_
  refine x_gCN d_MD_spread_99 (f_MD_249 rfl) (sh_MQ hq1) (hp_MQ hq1) rfl ?_
  refine x_iload d_MD_spread_102 rfl ?_
  obtain ⟨g_104, h⟩ := x_gd h
  refine x_lI d_MD_spread_104 rfl (sa_MQ_partKind hq1) (ha_MQ_partKind hq1) g_104 ?_
  refine x_iconst (v := 1) d_MD_spread_105 (by decide) ?_
  refine x_icmp_ne (tgt := 123) d_MD_spread_106 (by decide) (fun c_ => ?_) (fun c_ => ?_)
  · replace h := x_ie h c_
    refine x_sbk [0, 1, 2, 3] (lv2 := [(1, .ref q1), (2, .int l2), (4, .int l4), (5, .int l5)]) rfl ?_; exact b_MD_spread_123 hq1 hK14 hK26 h
  · replace h := x_it h c_
    refine x_iload d_MD_spread_109 rfl ?_
    refine x_iload d_MD_spread_111 rfl ?_
    refine x_iconst (v := 1) d_MD_spread_113 (by decide) ?_
    refine x_iadd d_MD_spread_114 ?_
    refine x_iand d_MD_spread_115 ?_
    refine x_if_ne (tgt := 123) d_MD_spread_116 (by decide) (fun c_ => ?_) (fun c_ => ?_)
    · replace h := x_ie h c_
      refine x_sbk [0, 1, 2, 3] (lv2 := [(1, .ref q1), (2, .int l2), (4, .int l4), (5, .int l5)]) rfl ?_; exact b_MD_spread_123 hq1 hK14 hK26 h
    · replace h := x_it h c_
      refine x_sbk [0, 1, 2, 3] (lv2 := [(1, .ref q1), (2, .int l2), (4, .int l4), (5, .int l5)]) rfl ?_; exact b_MD_spread_119 hq1 hK14 hK26 h
def B_MD_spread_26 (q1 : Nat) (K14 : Int32 → x_m → Option (x_m)) : Nat → Int32 → Int32 → Int32 → Int32 → x_m → Option (x_m)
  | 0, _, _, _, _, _ => none
  | f_ + 1, l2, l3, l4, l5, m => (if (m.1 q1 6) ≤ l5 then (if l3 = 0 then B_MD_spread_167 q1 K14 l2 m else (if x_ix (m.1 q1 9) 32 = true then B_MD_spread_167 q1 K14 l2 (x_wS (x_wA m (q1 + 7) (m.1 q1 9).toNatClampNeg l2) q1 9 (((x_wA m (q1 + 7) (m.1 q1 9).toNatClampNeg l2).1 q1 9) + 1)) else none)) else (if x_ix l5 8 = true then (if x_ix l5 8 = true then (if l3 = 0 then B_MD_spread_123 q1 K14 (B_MD_spread_26 q1 K14 f_) l2 l4 l5 m else (if x_ix l5 8 = true then (if (m.2.1 (q1 + 5) l5.toNatClampNeg) = 2 then B_MD_spread_119 q1 K14 (B_MD_spread_26 q1 K14 f_) l2 l4 l5 m else (if x_ix l5 8 = true then (if (m.2.1 (q1 + 5) l5.toNatClampNeg) = 0 then (if ((l2 >>> (l4 &&& 31)) &&& (((1 : Int32) <<< ((m.2.1 (q1 + 6) l5.toNatClampNeg) &&& 31)) - 1)) = (((1 : Int32) <<< ((m.2.1 (q1 + 6) l5.toNatClampNeg) &&& 31)) - 1) then B_MD_spread_119 q1 K14 (B_MD_spread_26 q1 K14 f_) l2 l4 l5 m else B_MD_spread_98 q1 K14 (B_MD_spread_26 q1 K14 f_) l2 l4 l5 ((l2 >>> (l4 &&& 31)) &&& (((1 : Int32) <<< ((m.2.1 (q1 + 6) l5.toNatClampNeg) &&& 31)) - 1)) m) else B_MD_spread_98 q1 K14 (B_MD_spread_26 q1 K14 f_) l2 l4 l5 ((l2 >>> (l4 &&& 31)) &&& (((1 : Int32) <<< ((m.2.1 (q1 + 6) l5.toNatClampNeg) &&& 31)) - 1)) m) else none)) else none)) else none) else none))
theorem b_MD_spread_26 {G : x_G} {ex : Bool} {r : x_m} {q1 : Nat} (hq1 : x_MQ q1) {K14 : Int32 → x_m → Option (x_m)} (hK14 : ∀ (l2 : Int32) (m : x_m), K14 l2 m = some r → x_W G M_MD_spread (x_rd 0) (x_Q G (x_rd 0) ex (x_pv r)) ex x_np (x_hp m) 0 0 [(1, .ref q1), (2, .int l2)] [] 14) : ∀ (f_ : Nat) (l2 : Int32) (l3 : Int32) (l4 : Int32) (l5 : Int32) (m : x_m), B_MD_spread_26 q1 K14 f_ l2 l3 l4 l5 m = some r → x_W G M_MD_spread (x_rd 0) (x_Q G (x_rd 0) ex (x_pv r)) ex x_np (x_hp m) 0 0 [(1, .ref q1), (2, .int l2), (3, .int l3), (4, .int l4), (5, .int l5)] [] 26 := by
  intro f_
  induction f_ with
  | zero => intro l2 l3 l4 l5 m h; exact nomatch h
  | succ f_ ih =>
    intro l2 l3 l4 l5 m h
    rw [B_MD_spread_26] at h
    have hK26 := ih
    refine x_iload d_MD_spread_26 rfl ?_
    refine x_aload_n d_MD_spread_28 rfl rfl ?_
    refine x_gIN d_MD_spread_29 (f_MD_252 rfl) (sh_MQ hq1) (hp_MQ hq1) rfl ?_
    refine x_icmp_ge (tgt := 143) d_MD_spread_32 (by decide) (fun c_ => ?_) (fun c_ => ?_)
    · replace h := x_it h c_
      refine x_iload_n d_MD_spread_143 rfl rfl ?_
      refine x_if_eq (tgt := 167) d_MD_spread_144 (by decide) (fun c_ => ?_) (fun c_ => ?_)
      · replace h := x_it h c_
        refine x_sbk [0, 1] (lv2 := [(1, .ref q1), (2, .int l2)]) rfl ?_; exact b_MD_spread_167 hq1 hK14 h
      · replace h := x_ie h c_
        refine x_aload_n d_MD_spread_147 rfl rfl ?_
        refine x_gCN d_MD_spread_148 (f_MD_267 rfl) (sh_MQ hq1) (hp_MQ hq1) rfl ?_
        refine x_aload_n d_MD_spread_151 rfl rfl ?_
        refine x_gIN d_MD_spread_152 (f_MD_264 rfl) (sh_MQ hq1) (hp_MQ hq1) rfl ?_
        refine x_iload_n d_MD_spread_155 rfl rfl ?_
        obtain ⟨g_156, h⟩ := x_gd h
        refine x_sI d_MD_spread_156 rfl (sa_MQ_set hq1) (ha_MQ_set hq1) g_156 ?_
        refine x_aload_n d_MD_spread_157 rfl rfl ?_
        refine x_dup d_MD_spread_158 rfl ?_
        refine x_gIN d_MD_spread_159 (f_MD_264 rfl) (sh_MQ hq1) (hp_MQ hq1) rfl ?_
        refine x_iconst (v := 1) d_MD_spread_162 (by decide) ?_
        refine x_iadd d_MD_spread_163 ?_
        refine x_pIN d_MD_spread_164 (f_MD_264 rfl) tb_MQ rfl (sh_MQ hq1) (hp_MQ hq1) rfl ⟨rfl, rfl⟩ ?_
        refine x_sbk [0, 1] (lv2 := [(1, .ref q1), (2, .int l2)]) rfl ?_; exact b_MD_spread_167 hq1 hK14 h
    · replace h := x_ie h c_
      refine x_iload_n d_MD_spread_35 rfl rfl ?_
      refine x_iload d_MD_spread_36 rfl ?_
      refine x_ishr d_MD_spread_38 ?_
      refine x_iconst (v := 1) d_MD_spread_39 (by decide) ?_
      refine x_aload_n d_MD_spread_40 rfl rfl ?_
      refine x_gCN d_MD_spread_41 (f_MD_255 rfl) (sh_MQ hq1) (hp_MQ hq1) rfl ?_
      refine x_iload d_MD_spread_44 rfl ?_
      obtain ⟨g_46, h⟩ := x_gd h
      refine x_lI d_MD_spread_46 rfl (sa_MQ_partSize hq1) (ha_MQ_partSize hq1) g_46 ?_
      refine x_ishl d_MD_spread_47 ?_
      refine x_iconst (v := 1) d_MD_spread_48 (by decide) ?_
      refine x_isub d_MD_spread_49 ?_
      refine x_iand d_MD_spread_50 ?_
      refine x_istore (lv2 := [(1, .ref q1), (2, .int l2), (3, .int l3), (4, .int l4), (5, .int l5), (6, .int ((l2 >>> (l4 &&& 31)) &&& (((1 : Int32) <<< ((m.2.1 (q1 + 6) l5.toNatClampNeg) &&& 31)) - 1)))]) d_MD_spread_51 (by decide) rfl ?_
      refine x_iconst (v := 1) d_MD_spread_53 (by decide) ?_
      refine x_aload_n d_MD_spread_54 rfl rfl ?_
      refine x_gCN d_MD_spread_55 (f_MD_255 rfl) (sh_MQ hq1) (hp_MQ hq1) rfl ?_
      refine x_iload d_MD_spread_58 rfl ?_
      obtain ⟨g_60, h⟩ := x_gd h
      refine x_lI d_MD_spread_60 rfl (sa_MQ_partSize hq1) (ha_MQ_partSize hq1) g_60 ?_
      refine x_ishl d_MD_spread_61 ?_
      refine x_iconst (v := 1) d_MD_spread_62 (by decide) ?_
      refine x_isub d_MD_spread_63 ?_
      refine x_istore (lv2 := [(1, .ref q1), (2, .int l2), (3, .int l3), (4, .int l4), (5, .int l5), (6, .int ((l2 >>> (l4 &&& 31)) &&& (((1 : Int32) <<< ((m.2.1 (q1 + 6) l5.toNatClampNeg) &&& 31)) - 1))), (7, .int (((1 : Int32) <<< ((m.2.1 (q1 + 6) l5.toNatClampNeg) &&& 31)) - 1))]) d_MD_spread_64 (by decide) rfl ?_
      refine x_iload_n d_MD_spread_66 rfl rfl ?_
      refine x_if_eq (tgt := 123) d_MD_spread_67 (by decide) (fun c_ => ?_) (fun c_ => ?_)
      · replace h := x_it h c_
        refine x_sbk [0, 1, 3, 4] (lv2 := [(1, .ref q1), (2, .int l2), (4, .int l4), (5, .int l5)]) rfl ?_; exact b_MD_spread_123 hq1 hK14 hK26 h
      · replace h := x_ie h c_
        refine x_aload_n d_MD_spread_70 rfl rfl ?_
        refine x_gCN d_MD_spread_71 (f_MD_249 rfl) (sh_MQ hq1) (hp_MQ hq1) rfl ?_
        refine x_iload d_MD_spread_74 rfl ?_
        obtain ⟨g_76, h⟩ := x_gd h
        refine x_lI d_MD_spread_76 rfl (sa_MQ_partKind hq1) (ha_MQ_partKind hq1) g_76 ?_
        refine x_iconst (v := 2) d_MD_spread_77 (by decide) ?_
        refine x_icmp_eq (tgt := 119) d_MD_spread_78 (by decide) (fun c_ => ?_) (fun c_ => ?_)
        · replace h := x_it h c_
          refine x_sbk [0, 1, 3, 4] (lv2 := [(1, .ref q1), (2, .int l2), (4, .int l4), (5, .int l5)]) rfl ?_; exact b_MD_spread_119 hq1 hK14 hK26 h
        · replace h := x_ie h c_
          refine x_aload_n d_MD_spread_81 rfl rfl ?_
          refine x_gCN d_MD_spread_82 (f_MD_249 rfl) (sh_MQ hq1) (hp_MQ hq1) rfl ?_
          refine x_iload d_MD_spread_85 rfl ?_
          obtain ⟨g_87, h⟩ := x_gd h
          refine x_lI d_MD_spread_87 rfl (sa_MQ_partKind hq1) (ha_MQ_partKind hq1) g_87 ?_
          refine x_if_ne (tgt := 98) d_MD_spread_88 (by decide) (fun c_ => ?_) (fun c_ => ?_)
          · replace h := x_ie h c_
            refine x_sbk [0, 1, 3, 4, 5] (lv2 := [(1, .ref q1), (2, .int l2), (4, .int l4), (5, .int l5), (6, .int ((l2 >>> (l4 &&& 31)) &&& (((1 : Int32) <<< ((m.2.1 (q1 + 6) l5.toNatClampNeg) &&& 31)) - 1)))]) rfl ?_; exact b_MD_spread_98 hq1 hK14 hK26 h
          · replace h := x_it h c_
            refine x_iload d_MD_spread_91 rfl ?_
            refine x_iload d_MD_spread_93 rfl ?_
            refine x_icmp_eq (tgt := 119) d_MD_spread_95 (by decide) (fun c_ => ?_) (fun c_ => ?_)
            · replace h := x_it h c_
              refine x_sbk [0, 1, 3, 4] (lv2 := [(1, .ref q1), (2, .int l2), (4, .int l4), (5, .int l5)]) rfl ?_; exact b_MD_spread_119 hq1 hK14 hK26 h
            · replace h := x_ie h c_
              refine x_sbk [0, 1, 3, 4, 5] (lv2 := [(1, .ref q1), (2, .int l2), (4, .int l4), (5, .int l5), (6, .int ((l2 >>> (l4 &&& 31)) &&& (((1 : Int32) <<< ((m.2.1 (q1 + 6) l5.toNatClampNeg) &&& 31)) - 1)))]) rfl ?_; exact b_MD_spread_98 hq1 hK14 hK26 h
def B_MD_spread_14 (q1 : Nat)  : Nat → Int32 → x_m → Option (x_m)
  | 0, _, _ => none
  | f_ + 1, l2, m => (if l2 < 0 then some m else B_MD_spread_26 q1 (B_MD_spread_14 q1 f_) x_fu l2 1 0 0 m)
theorem b_MD_spread_14 {G : x_G} {ex : Bool} {r : x_m} {q1 : Nat} (hq1 : x_MQ q1)  : ∀ (f_ : Nat) (l2 : Int32) (m : x_m), B_MD_spread_14 q1 f_ l2 m = some r → x_W G M_MD_spread (x_rd 0) (x_Q G (x_rd 0) ex (x_pv r)) ex x_np (x_hp m) 0 0 [(1, .ref q1), (2, .int l2)] [] 14 := by
  intro f_
  induction f_ with
  | zero => intro l2 m h; exact nomatch h
  | succ f_ ih =>
    intro l2 m h
    rw [B_MD_spread_14] at h
    have hK14 := ih
    refine x_iload_n d_MD_spread_14 rfl rfl ?_
    refine x_if_lt (tgt := 173) d_MD_spread_15 (by decide) (fun c_ => ?_) (fun c_ => ?_)
    · replace h := x_it h c_
      cases h
      exact x_rv d_MD_spread_173 rfl
    · replace h := x_ie h c_
      refine x_iconst (v := 1) d_MD_spread_18 (by decide) ?_
      refine x_istore_n (lv2 := [(1, .ref q1), (2, .int l2), (3, .int 1)]) d_MD_spread_19 rfl (by decide) rfl ?_
      refine x_iconst (v := 0) d_MD_spread_20 (by decide) ?_
      refine x_istore (lv2 := [(1, .ref q1), (2, .int l2), (3, .int 1), (4, .int 0)]) d_MD_spread_21 (by decide) rfl ?_
      refine x_iconst (v := 0) d_MD_spread_23 (by decide) ?_
      refine x_istore (lv2 := [(1, .ref q1), (2, .int l2), (3, .int 1), (4, .int 0), (5, .int 0)]) d_MD_spread_24 (by decide) rfl ?_
      exact b_MD_spread_26 hq1 hK14 _ _ _ _ _ _ h
def F_MD_spread (q1 : Nat)  (m : x_m) : Option (x_m) := B_MD_spread_14 q1 x_fu (((1 : Int32) <<< (((x_wS m q1 9 0).1 q1 4) &&& 31)) - 1) (x_wS m q1 9 0)
theorem c_MD_spread {G : x_G} {ex : Bool} {r : x_m} {q1 : Nat} (hq1 : x_MQ q1)  {m : x_m} (h : F_MD_spread q1 m = some r) : x_R G M_MD_spread (x_rd 0) ex [.ref 387, .ref q1] x_np (x_hp m) (x_pv r) := by
  unfold F_MD_spread at h
  show x_W G M_MD_spread (x_rd 0) (x_Q G (x_rd 0) ex (x_pv r)) ex x_np (x_hp m) 0 0 [(0, .ref 387), (1, .ref q1)] [] 0
  refine x_aload_n d_MD_spread_0 rfl rfl ?_
  refine x_iconst (v := 0) d_MD_spread_1 (by decide) ?_
  refine x_pIN d_MD_spread_2 (f_MD_264 rfl) tb_MQ rfl (sh_MQ hq1) (hp_MQ hq1) rfl ⟨rfl, rfl⟩ ?_
  refine x_iconst (v := 1) d_MD_spread_5 (by decide) ?_
  refine x_aload_n d_MD_spread_6 rfl rfl ?_
  refine x_gIN d_MD_spread_7 (f_MD_240 rfl) (sh_MQ hq1) (hp_MQ hq1) rfl ?_
  refine x_ishl d_MD_spread_10 ?_
  refine x_iconst (v := 1) d_MD_spread_11 (by decide) ?_
  refine x_isub d_MD_spread_12 ?_
  refine x_istore_n (lv2 := [(0, .ref 387), (1, .ref q1), (2, .int (((1 : Int32) <<< (((x_wS m q1 9 0).1 q1 4) &&& 31)) - 1))]) d_MD_spread_13 rfl (by decide) rfl ?_
  refine x_sbk [1, 2] (lv2 := [(1, .ref q1), (2, .int (((1 : Int32) <<< (((x_wS m q1 9 0).1 q1 4) &&& 31)) - 1))]) rfl ?_; exact b_MD_spread_14 hq1 _ _ _ h
def B_MD_question_310    (m : x_m) : Option (x_m) := some m
theorem b_MD_question_310 {G : x_G} {ex : Bool} {r : x_m}    {m : x_m} (h : B_MD_question_310 m = some r) : x_W G M_MD_question (x_rd 147) (x_Q G (x_rd 147) ex (x_pv r)) ex x_np (x_hp m) 0 0 [] [] 310 := by
  unfold B_MD_question_310 at h
  cases h
  exact x_rv d_MD_question_310 rfl
def B_MD_question_272    (m : x_m) : Option (x_m) := (if (m.1 387 5) = 0 then (if x_mq (m.2.2.1 387 22) = true then ((F_MD_spread (m.2.2.1 387 22) m).bind fun r284 => (if x_mq (r284.2.2.1 387 21) = true then (if x_mq (r284.2.2.1 387 22) = true then B_MD_question_310 (x_wS (x_wR (x_wR r284 387 21 (r284.2.2.1 387 22)) 387 22 (r284.2.2.1 387 21)) 387 23 1) else none) else none)) else none) else B_MD_question_310 m)
theorem b_MD_question_272 {G : x_G} {ex : Bool} {r : x_m}    {m : x_m} (h : B_MD_question_272 m = some r) : x_W G M_MD_question (x_rd 147) (x_Q G (x_rd 147) ex (x_pv r)) ex x_np (x_hp m) 0 0 [(0, .ref 387)] [] 272 := by
  unfold B_MD_question_272 at h
  refine x_aload_n d_MD_question_272 rfl rfl ?_
  refine x_gI d_MD_question_273 (f_MD_67 rfl) sh_MD hp_MD rfl ?_
  refine x_if_ne (tgt := 310) d_MD_question_276 (by decide) (fun c_ => ?_) (fun c_ => ?_)
  · replace h := x_ie h c_
    refine x_sbk [] (lv2 := []) rfl ?_; exact b_MD_question_310 h
  · replace h := x_it h c_
    refine x_aload_n d_MD_question_279 rfl rfl ?_
    refine x_aload_n d_MD_question_280 rfl rfl ?_
    refine x_gR d_MD_question_281 (f_MD_50 rfl) sh_MD hp_MD rfl ?_
    obtain ⟨g_281, h⟩ := x_gd h
    obtain ⟨r284, e284, h⟩ := x_bd h
    refine x_cVv (M2 := M_MD_spread) (As := [.ref (m.2.2.1 387 22)]) (st := []) d_MD_question_284 w_1435 k_MD_spread (c_MD_spread (x_mq_ok g_281) e284) rfl sh_MD hp_MD rfl ⟨Nat.le_of_ble_eq_true rfl, Nat.le_of_ble_eq_true rfl⟩ (Nat.le_of_ble_eq_true rfl) (Nat.le_of_ble_eq_true rfl) rfl ?_
    refine x_aload_n d_MD_question_287 rfl rfl ?_
    refine x_gR d_MD_question_288 (f_MD_46 rfl) sh_MD hp_MD rfl ?_
    obtain ⟨g_288, h⟩ := x_gd h
    refine x_astore_n (lv2 := [(0, .ref 387), (3, .ref (r284.2.2.1 387 21))]) d_MD_question_291 rfl (by decide) rfl ?_
    refine x_aload_n d_MD_question_292 rfl rfl ?_
    refine x_aload_n d_MD_question_293 rfl rfl ?_
    refine x_gR d_MD_question_294 (f_MD_50 rfl) sh_MD hp_MD rfl ?_
    obtain ⟨g_294, h⟩ := x_gd h
    refine x_pR d_MD_question_297 (f_MD_46 rfl) tb_MD rfl sh_MD hp_MD rfl ⟨rfl, rfl⟩ ?_
    refine x_aload_n d_MD_question_300 rfl rfl ?_
    refine x_aload_n d_MD_question_301 rfl rfl ?_
    refine x_pR d_MD_question_302 (f_MD_50 rfl) tb_MD rfl sh_MD hp_MD rfl ⟨rfl, rfl⟩ ?_
    refine x_aload_n d_MD_question_305 rfl rfl ?_
    refine x_iconst (v := 1) d_MD_question_306 (by decide) ?_
    refine x_pI d_MD_question_307 (f_MD_280 rfl) tb_MD rfl sh_MD hp_MD rfl ⟨rfl, rfl⟩ ?_
    refine x_sbk [] (lv2 := []) rfl ?_; exact b_MD_question_310 h
def B_MD_question_240  (K143 : Int32 → x_m → Option (x_m)) (K196 : Int32 → Int32 → Int32 → x_m → Option (x_m)) (l3 : Int32) (l5 : Int32) (s0 : Int32) (m : x_m) : Option (x_m) := K196 l3 s0 (l5 + 1) m
theorem b_MD_question_240 {G : x_G} {ex : Bool} {r : x_m}  {K143 : Int32 → x_m → Option (x_m)} (hK143 : ∀ (l3 : Int32) (m : x_m), K143 l3 m = some r → x_W G M_MD_question (x_rd 147) (x_Q G (x_rd 147) ex (x_pv r)) ex x_np (x_hp m) 0 0 [(0, .ref 387), (3, .int l3)] [] 143) {K196 : Int32 → Int32 → Int32 → x_m → Option (x_m)} (hK196 : ∀ (l3 : Int32) (l4 : Int32) (l5 : Int32) (m : x_m), K196 l3 l4 l5 m = some r → x_W G M_MD_question (x_rd 147) (x_Q G (x_rd 147) ex (x_pv r)) ex x_np (x_hp m) 0 0 [(0, .ref 387), (3, .int l3), (4, .int l4), (5, .int l5)] [] 196) {l3 : Int32} {l5 : Int32} {s0 : Int32} {m : x_m} (h : B_MD_question_240 K143 K196 l3 l5 s0 m = some r) : x_W G M_MD_question (x_rd 147) (x_Q G (x_rd 147) ex (x_pv r)) ex x_np (x_hp m) 0 0 [(0, .ref 387), (3, .int l3), (5, .int l5)] [.int s0] 240 := by
  unfold B_MD_question_240 at h
  refine x_istore (lv2 := [(0, .ref 387), (3, .int l3), (4, .int s0), (5, .int l5)]) d_MD_question_240 (by decide) rfl ?_
  refine x_iinc (v := l5 + 1) (lv2 := [(0, .ref 387), (3, .int l3), (4, .int s0), (5, .int (l5 + 1))]) d_MD_question_242 rfl rfl (by decide) rfl ?_
  refine x_goto (tgt := 196) d_MD_question_245 (by decide) ?_
  exact hK196 _ _ _ _ h
def B_MD_question_235  (K143 : Int32 → x_m → Option (x_m)) (K196 : Int32 → Int32 → Int32 → x_m → Option (x_m)) (l3 : Int32) (l5 : Int32) (m : x_m) : Option (x_m) := B_MD_question_240 K143 K196 l3 l5 1 m
theorem b_MD_question_235 {G : x_G} {ex : Bool} {r : x_m}  {K143 : Int32 → x_m → Option (x_m)} (hK143 : ∀ (l3 : Int32) (m : x_m), K143 l3 m = some r → x_W G M_MD_question (x_rd 147) (x_Q G (x_rd 147) ex (x_pv r)) ex x_np (x_hp m) 0 0 [(0, .ref 387), (3, .int l3)] [] 143) {K196 : Int32 → Int32 → Int32 → x_m → Option (x_m)} (hK196 : ∀ (l3 : Int32) (l4 : Int32) (l5 : Int32) (m : x_m), K196 l3 l4 l5 m = some r → x_W G M_MD_question (x_rd 147) (x_Q G (x_rd 147) ex (x_pv r)) ex x_np (x_hp m) 0 0 [(0, .ref 387), (3, .int l3), (4, .int l4), (5, .int l5)] [] 196) {l3 : Int32} {l5 : Int32} {m : x_m} (h : B_MD_question_235 K143 K196 l3 l5 m = some r) : x_W G M_MD_question (x_rd 147) (x_Q G (x_rd 147) ex (x_pv r)) ex x_np (x_hp m) 0 0 [(0, .ref 387), (3, .int l3), (5, .int l5)] [] 235 := by
  unfold B_MD_question_235 at h
  refine x_iconst (v := 1) d_MD_question_235 (by decide) ?_
  refine x_goto (tgt := 240) d_MD_question_236 (by decide) ?_
  exact b_MD_question_240 hK143 hK196 h
def B_MD_question_196  (K143 : Int32 → x_m → Option (x_m)) : Nat → Int32 → Int32 → Int32 → x_m → Option (x_m)
  | 0, _, _, _, _ => none
  | f_ + 1, l3, l4, l5, m => (if x_mq (m.2.2.1 387 22) = true then (if (m.1 (m.2.2.1 387 22) 4) ≤ l5 then (if x_mq (m.2.2.1 387 22) = true then (if x_ix l3 24 = true then ((F_MD_want l4 11 (m.2.1 (m.2.2.1 387 22 + 3) l3.toNatClampNeg) m).bind fun r262 => K143 (l3 + 1) r262.2) else none) else none) else (if l4 = 0 then (if x_mq (m.2.2.1 387 22) = true then (if x_ix l5 8 = true then (if x_mq (m.2.2.1 387 22) = true then (if x_ix l3 24 = true then (if (m.2.1 (m.2.2.1 387 22 + 4) l5.toNatClampNeg) = (m.2.1 (m.2.2.1 387 22 + 2) l3.toNatClampNeg) then B_MD_question_235 K143 (B_MD_question_196 K143 f_) l3 l5 m else B_MD_question_240 K143 (B_MD_question_196 K143 f_) l3 l5 0 m) else none) else none) else none) else none) else B_MD_question_235 K143 (B_MD_question_196 K143 f_) l3 l5 m)) else none)
theorem b_MD_question_196 {G : x_G} {ex : Bool} {r : x_m}  {K143 : Int32 → x_m → Option (x_m)} (hK143 : ∀ (l3 : Int32) (m : x_m), K143 l3 m = some r → x_W G M_MD_question (x_rd 147) (x_Q G (x_rd 147) ex (x_pv r)) ex x_np (x_hp m) 0 0 [(0, .ref 387), (3, .int l3)] [] 143) : ∀ (f_ : Nat) (l3 : Int32) (l4 : Int32) (l5 : Int32) (m : x_m), B_MD_question_196 K143 f_ l3 l4 l5 m = some r → x_W G M_MD_question (x_rd 147) (x_Q G (x_rd 147) ex (x_pv r)) ex x_np (x_hp m) 0 0 [(0, .ref 387), (3, .int l3), (4, .int l4), (5, .int l5)] [] 196 := by
  intro f_
  induction f_ with
  | zero => intro l3 l4 l5 m h; exact nomatch h
  | succ f_ ih =>
    intro l3 l4 l5 m h
    rw [B_MD_question_196] at h
    have hK196 := ih
    refine x_iload d_MD_question_196 rfl ?_
    refine x_aload_n d_MD_question_198 rfl rfl ?_
    refine x_gR d_MD_question_199 (f_MD_50 rfl) sh_MD hp_MD rfl ?_
    obtain ⟨g_199, h⟩ := x_gd h
    refine x_gIN d_MD_question_202 (f_MD_240 rfl) (sh_MQ (x_mq_ok g_199)) (hp_MQ (x_mq_ok g_199)) rfl ?_
    refine x_icmp_ge (tgt := 248) d_MD_question_205 (by decide) (fun c_ => ?_) (fun c_ => ?_)
    · replace h := x_it h c_
      refine x_aload_n d_MD_question_248 rfl rfl ?_
      refine x_iload d_MD_question_249 rfl ?_
      refine x_bipush (v := 11) d_MD_question_251 (by decide) ?_
      refine x_aload_n d_MD_question_253 rfl rfl ?_
      refine x_gR d_MD_question_254 (f_MD_50 rfl) sh_MD hp_MD rfl ?_
      obtain ⟨g_254, h⟩ := x_gd h
      refine x_gCN d_MD_question_257 (f_MD_191 rfl) (sh_MQ (x_mq_ok g_254)) (hp_MQ (x_mq_ok g_254)) rfl ?_
      refine x_iload_n d_MD_question_260 rfl rfl ?_
      obtain ⟨g_261, h⟩ := x_gd h
      refine x_lI d_MD_question_261 rfl (sa_MQ_begins (x_mq_ok g_254)) (ha_MQ_begins (x_mq_ok g_254)) g_261 ?_
      obtain ⟨r262, e262, h⟩ := x_bd h
      refine x_cVi (M2 := M_MD_want) (As := [.int l4, .int 11, .int (m.2.1 (m.2.2.1 387 22 + 3) l3.toNatClampNeg)]) (st := []) d_MD_question_262 w_1315 k_MD_want (c_MD_want e262) rfl sh_MD hp_MD rfl ⟨Nat.le_of_ble_eq_true rfl, Nat.le_of_ble_eq_true rfl⟩ (Nat.le_of_ble_eq_true rfl) (Nat.le_of_ble_eq_true rfl) rfl ?_
      refine x_istore_n (lv2 := [(0, .ref 387), (2, .int r262.1), (3, .int l3), (4, .int l4), (5, .int l5)]) d_MD_question_265 rfl (by decide) rfl ?_
      refine x_iinc (v := l3 + 1) (lv2 := [(0, .ref 387), (2, .int r262.1), (3, .int (l3 + 1)), (4, .int l4), (5, .int l5)]) d_MD_question_266 rfl rfl (by decide) rfl ?_
      refine x_goto (tgt := 143) d_MD_question_269 (by decide) ?_
      refine x_sbk [0, 2] (lv2 := [(0, .ref 387), (3, .int (l3 + 1))]) rfl ?_; exact hK143 _ _ h
    · replace h := x_ie h c_
      refine x_iload d_MD_question_208 rfl ?_
      refine x_if_ne (tgt := 235) d_MD_question_210 (by decide) (fun c_ => ?_) (fun c_ => ?_)
      · replace h := x_ie h c_
        refine x_sbk [0, 1, 3] (lv2 := [(0, .ref 387), (3, .int l3), (5, .int l5)]) rfl ?_; exact b_MD_question_235 hK143 hK196 h
      · replace h := x_it h c_
        refine x_aload_n d_MD_question_213 rfl rfl ?_
        refine x_gR d_MD_question_214 (f_MD_50 rfl) sh_MD hp_MD rfl ?_
        obtain ⟨g_214, h⟩ := x_gd h
        refine x_gCN d_MD_question_217 (f_MD_243 rfl) (sh_MQ (x_mq_ok g_214)) (hp_MQ (x_mq_ok g_214)) rfl ?_
        refine x_iload d_MD_question_220 rfl ?_
        obtain ⟨g_222, h⟩ := x_gd h
        refine x_lI d_MD_question_222 rfl (sa_MQ_group (x_mq_ok g_214)) (ha_MQ_group (x_mq_ok g_214)) g_222 ?_
        refine x_aload_n d_MD_question_223 rfl rfl ?_
        refine x_gR d_MD_question_224 (f_MD_50 rfl) sh_MD hp_MD rfl ?_
        obtain ⟨g_224, h⟩ := x_gd h
        refine x_gCN d_MD_question_227 (f_MD_188 rfl) (sh_MQ (x_mq_ok g_224)) (hp_MQ (x_mq_ok g_224)) rfl ?_
        refine x_iload_n d_MD_question_230 rfl rfl ?_
        obtain ⟨g_231, h⟩ := x_gd h
        refine x_lI d_MD_question_231 rfl (sa_MQ_of (x_mq_ok g_224)) (ha_MQ_of (x_mq_ok g_224)) g_231 ?_
        refine x_icmp_ne (tgt := 239) d_MD_question_232 (by decide) (fun c_ => ?_) (fun c_ => ?_)
        · replace h := x_ie h c_
          refine x_iconst (v := 0) d_MD_question_239 (by decide) ?_
          refine x_sbk [0, 1, 3] (lv2 := [(0, .ref 387), (3, .int l3), (5, .int l5)]) rfl ?_; exact b_MD_question_240 hK143 hK196 h
        · replace h := x_it h c_
          refine x_sbk [0, 1, 3] (lv2 := [(0, .ref 387), (3, .int l3), (5, .int l5)]) rfl ?_; exact b_MD_question_235 hK143 hK196 h
def B_MD_question_191  (K143 : Int32 → x_m → Option (x_m)) (l3 : Int32) (s0 : Int32) (m : x_m) : Option (x_m) := B_MD_question_196 K143 x_fu l3 s0 0 m
theorem b_MD_question_191 {G : x_G} {ex : Bool} {r : x_m}  {K143 : Int32 → x_m → Option (x_m)} (hK143 : ∀ (l3 : Int32) (m : x_m), K143 l3 m = some r → x_W G M_MD_question (x_rd 147) (x_Q G (x_rd 147) ex (x_pv r)) ex x_np (x_hp m) 0 0 [(0, .ref 387), (3, .int l3)] [] 143) {l3 : Int32} {s0 : Int32} {m : x_m} (h : B_MD_question_191 K143 l3 s0 m = some r) : x_W G M_MD_question (x_rd 147) (x_Q G (x_rd 147) ex (x_pv r)) ex x_np (x_hp m) 0 0 [(0, .ref 387), (3, .int l3)] [.int s0] 191 := by
  unfold B_MD_question_191 at h
  refine x_istore (lv2 := [(0, .ref 387), (3, .int l3), (4, .int s0)]) d_MD_question_191 (by decide) rfl ?_
  refine x_iconst (v := 0) d_MD_question_193 (by decide) ?_
  refine x_istore (lv2 := [(0, .ref 387), (3, .int l3), (4, .int s0), (5, .int 0)]) d_MD_question_194 (by decide) rfl ?_
  exact b_MD_question_196 hK143 _ _ _ _ _ h
def B_MD_question_190  (K143 : Int32 → x_m → Option (x_m)) (l3 : Int32) (m : x_m) : Option (x_m) := B_MD_question_191 K143 l3 0 m
theorem b_MD_question_190 {G : x_G} {ex : Bool} {r : x_m}  {K143 : Int32 → x_m → Option (x_m)} (hK143 : ∀ (l3 : Int32) (m : x_m), K143 l3 m = some r → x_W G M_MD_question (x_rd 147) (x_Q G (x_rd 147) ex (x_pv r)) ex x_np (x_hp m) 0 0 [(0, .ref 387), (3, .int l3)] [] 143) {l3 : Int32} {m : x_m} (h : B_MD_question_190 K143 l3 m = some r) : x_W G M_MD_question (x_rd 147) (x_Q G (x_rd 147) ex (x_pv r)) ex x_np (x_hp m) 0 0 [(0, .ref 387), (3, .int l3)] [] 190 := by
  unfold B_MD_question_190 at h
  refine x_iconst (v := 0) d_MD_question_190 (by decide) ?_
  exact b_MD_question_191 hK143 h
def B_MD_question_143   : Nat → Int32 → x_m → Option (x_m)
  | 0, _, _ => none
  | f_ + 1, l3, m => (if x_mq (m.2.2.1 387 22) = true then (if (m.1 (m.2.2.1 387 22) 0) ≤ l3 then B_MD_question_272 m else (if (m.1 387 5) = 0 then (if x_mq (m.2.2.1 387 22) = true then (if x_ix l3 24 = true then (if (m.2.1 (m.2.2.1 387 22 + 1) l3.toNatClampNeg) ≤ 0 then B_MD_question_190 (B_MD_question_143 f_) l3 m else (if x_mq (m.2.2.1 387 22) = true then (if x_ix l3 24 = true then (if 5 ≤ (m.2.1 (m.2.2.1 387 22 + 1) l3.toNatClampNeg) then B_MD_question_190 (B_MD_question_143 f_) l3 m else B_MD_question_191 (B_MD_question_143 f_) l3 1 m) else none) else none)) else none) else none) else B_MD_question_272 m)) else none)
theorem b_MD_question_143 {G : x_G} {ex : Bool} {r : x_m}   : ∀ (f_ : Nat) (l3 : Int32) (m : x_m), B_MD_question_143 f_ l3 m = some r → x_W G M_MD_question (x_rd 147) (x_Q G (x_rd 147) ex (x_pv r)) ex x_np (x_hp m) 0 0 [(0, .ref 387), (3, .int l3)] [] 143 := by
  intro f_
  induction f_ with
  | zero => intro l3 m h; exact nomatch h
  | succ f_ ih =>
    intro l3 m h
    rw [B_MD_question_143] at h
    have hK143 := ih
    refine x_iload_n d_MD_question_143 rfl rfl ?_
    refine x_aload_n d_MD_question_144 rfl rfl ?_
    refine x_gR d_MD_question_145 (f_MD_50 rfl) sh_MD hp_MD rfl ?_
    obtain ⟨g_145, h⟩ := x_gd h
    refine x_gIN d_MD_question_148 (f_MD_179 rfl) (sh_MQ (x_mq_ok g_145)) (hp_MQ (x_mq_ok g_145)) rfl ?_
    refine x_icmp_ge (tgt := 272) d_MD_question_151 (by decide) (fun c_ => ?_) (fun c_ => ?_)
    · replace h := x_it h c_
      refine x_sbk [0] (lv2 := [(0, .ref 387)]) rfl ?_; exact b_MD_question_272 h
    · replace h := x_ie h c_
      refine x_aload_n d_MD_question_154 rfl rfl ?_
      refine x_gI d_MD_question_155 (f_MD_67 rfl) sh_MD hp_MD rfl ?_
      refine x_if_ne (tgt := 272) d_MD_question_158 (by decide) (fun c_ => ?_) (fun c_ => ?_)
      · replace h := x_ie h c_
        refine x_sbk [0] (lv2 := [(0, .ref 387)]) rfl ?_; exact b_MD_question_272 h
      · replace h := x_it h c_
        refine x_aload_n d_MD_question_161 rfl rfl ?_
        refine x_gR d_MD_question_162 (f_MD_50 rfl) sh_MD hp_MD rfl ?_
        obtain ⟨g_162, h⟩ := x_gd h
        refine x_gCN d_MD_question_165 (f_MD_185 rfl) (sh_MQ (x_mq_ok g_162)) (hp_MQ (x_mq_ok g_162)) rfl ?_
        refine x_iload_n d_MD_question_168 rfl rfl ?_
        obtain ⟨g_169, h⟩ := x_gd h
        refine x_lI d_MD_question_169 rfl (sa_MQ_kind (x_mq_ok g_162)) (ha_MQ_kind (x_mq_ok g_162)) g_169 ?_
        refine x_if_le (tgt := 190) d_MD_question_170 (by decide) (fun c_ => ?_) (fun c_ => ?_)
        · replace h := x_it h c_
          exact b_MD_question_190 hK143 h
        · replace h := x_ie h c_
          refine x_aload_n d_MD_question_173 rfl rfl ?_
          refine x_gR d_MD_question_174 (f_MD_50 rfl) sh_MD hp_MD rfl ?_
          obtain ⟨g_174, h⟩ := x_gd h
          refine x_gCN d_MD_question_177 (f_MD_185 rfl) (sh_MQ (x_mq_ok g_174)) (hp_MQ (x_mq_ok g_174)) rfl ?_
          refine x_iload_n d_MD_question_180 rfl rfl ?_
          obtain ⟨g_181, h⟩ := x_gd h
          refine x_lI d_MD_question_181 rfl (sa_MQ_kind (x_mq_ok g_174)) (ha_MQ_kind (x_mq_ok g_174)) g_181 ?_
          refine x_iconst (v := 5) d_MD_question_182 (by decide) ?_
          refine x_icmp_ge (tgt := 190) d_MD_question_183 (by decide) (fun c_ => ?_) (fun c_ => ?_)
          · replace h := x_it h c_
            exact b_MD_question_190 hK143 h
          · replace h := x_ie h c_
            refine x_iconst (v := 1) d_MD_question_186 (by decide) ?_
            refine x_goto (tgt := 191) d_MD_question_187 (by decide) ?_
            exact b_MD_question_191 hK143 h
def B_MD_question_130    (m : x_m) : Option (x_m) := ((F_MD_isSign 59 m).bind fun r134 => ((F_MD_must r134.1 r134.2).bind fun r137 => B_MD_question_143 x_fu 0 r137.2))
theorem b_MD_question_130 {G : x_G} {ex : Bool} {r : x_m}    {m : x_m} (h : B_MD_question_130 m = some r) : x_W G M_MD_question (x_rd 147) (x_Q G (x_rd 147) ex (x_pv r)) ex x_np (x_hp m) 0 0 [(0, .ref 387)] [] 130 := by
  unfold B_MD_question_130 at h
  refine x_aload_n d_MD_question_130 rfl rfl ?_
  refine x_aload_n d_MD_question_131 rfl rfl ?_
  refine x_bipush (v := 59) d_MD_question_132 (by decide) ?_
  obtain ⟨r134, e134, h⟩ := x_bd h
  refine x_cVi (M2 := M_MD_isSign) (As := [.int 59]) (st := [.ref 387]) d_MD_question_134 w_1363 k_MD_isSign (c_MD_isSign e134) rfl sh_MD hp_MD rfl ⟨Nat.le_of_ble_eq_true rfl, Nat.le_of_ble_eq_true rfl⟩ (Nat.le_of_ble_eq_true rfl) (Nat.le_of_ble_eq_true rfl) rfl ?_
  obtain ⟨r137, e137, h⟩ := x_bd h
  refine x_cVi (M2 := M_MD_must) (As := [.int r134.1]) (st := []) d_MD_question_137 w_1331 k_MD_must (c_MD_must e137) rfl sh_MD hp_MD rfl ⟨Nat.le_of_ble_eq_true rfl, Nat.le_of_ble_eq_true rfl⟩ (Nat.le_of_ble_eq_true rfl) (Nat.le_of_ble_eq_true rfl) rfl ?_
  refine x_istore_n (lv2 := [(0, .ref 387), (2, .int r137.1)]) d_MD_question_140 rfl (by decide) rfl ?_
  refine x_iconst (v := 0) d_MD_question_141 (by decide) ?_
  refine x_istore_n (lv2 := [(0, .ref 387), (2, .int r137.1), (3, .int 0)]) d_MD_question_142 rfl (by decide) rfl ?_
  refine x_sbk [0, 2] (lv2 := [(0, .ref 387), (3, .int 0)]) rfl ?_; exact b_MD_question_143 _ _ _ h
def B_MD_question_111    (m : x_m) : Option (x_m) := (if (m.1 387 5) = 0 then ((F_MD_isWord 5 m).bind fun r120 => (if r120.1 = 0 then B_MD_question_130 r120.2 else ((F_MD_grouping r120.2).bind fun r127 => B_MD_question_130 r127))) else B_MD_question_130 m)
theorem b_MD_question_111 {G : x_G} {ex : Bool} {r : x_m}    {m : x_m} (h : B_MD_question_111 m = some r) : x_W G M_MD_question (x_rd 147) (x_Q G (x_rd 147) ex (x_pv r)) ex x_np (x_hp m) 0 0 [(0, .ref 387)] [] 111 := by
  unfold B_MD_question_111 at h
  refine x_aload_n d_MD_question_111 rfl rfl ?_
  refine x_gI d_MD_question_112 (f_MD_67 rfl) sh_MD hp_MD rfl ?_
  refine x_if_ne (tgt := 130) d_MD_question_115 (by decide) (fun c_ => ?_) (fun c_ => ?_)
  · replace h := x_ie h c_
    exact b_MD_question_130 h
  · replace h := x_it h c_
    refine x_aload_n d_MD_question_118 rfl rfl ?_
    refine x_iconst (v := 5) d_MD_question_119 (by decide) ?_
    obtain ⟨r120, e120, h⟩ := x_bd h
    refine x_cVi (M2 := M_MD_isWord) (As := [.int 5]) (st := []) d_MD_question_120 w_1327 k_MD_isWord (c_MD_isWord e120) rfl sh_MD hp_MD rfl ⟨Nat.le_of_ble_eq_true rfl, Nat.le_of_ble_eq_true rfl⟩ (Nat.le_of_ble_eq_true rfl) (Nat.le_of_ble_eq_true rfl) rfl ?_
    refine x_if_eq (tgt := 130) d_MD_question_123 (by decide) (fun c_ => ?_) (fun c_ => ?_)
    · replace h := x_it h c_
      exact b_MD_question_130 h
    · replace h := x_ie h c_
      refine x_aload_n d_MD_question_126 rfl rfl ?_
      obtain ⟨r127, e127, h⟩ := x_bd h
      refine x_cVv (M2 := M_MD_grouping) (As := []) (st := []) d_MD_question_127 w_1423 k_MD_grouping (c_MD_grouping e127) rfl sh_MD hp_MD rfl ⟨Nat.le_of_ble_eq_true rfl, Nat.le_of_ble_eq_true rfl⟩ (Nat.le_of_ble_eq_true rfl) (Nat.le_of_ble_eq_true rfl) rfl ?_
      exact b_MD_question_130 h
def B_MD_question_84  (K47 : Int32 → x_m → Option (x_m)) (s0 : Int32) (m : x_m) : Option (x_m) := K47 s0 m
theorem b_MD_question_84 {G : x_G} {ex : Bool} {r : x_m}  {K47 : Int32 → x_m → Option (x_m)} (hK47 : ∀ (l1 : Int32) (m : x_m), K47 l1 m = some r → x_W G M_MD_question (x_rd 147) (x_Q G (x_rd 147) ex (x_pv r)) ex x_np (x_hp m) 0 0 [(0, .ref 387), (1, .int l1)] [] 47) {s0 : Int32} {m : x_m} (h : B_MD_question_84 K47 s0 m = some r) : x_W G M_MD_question (x_rd 147) (x_Q G (x_rd 147) ex (x_pv r)) ex x_np (x_hp m) 0 0 [(0, .ref 387)] [.int s0] 84 := by
  unfold B_MD_question_84 at h
  refine x_istore_n (lv2 := [(0, .ref 387), (1, .int s0)]) d_MD_question_84 rfl (by decide) rfl ?_
  refine x_goto (tgt := 47) d_MD_question_85 (by decide) ?_
  exact hK47 _ _ h
def B_MD_question_83  (K47 : Int32 → x_m → Option (x_m))  (m : x_m) : Option (x_m) := B_MD_question_84 K47 0 m
theorem b_MD_question_83 {G : x_G} {ex : Bool} {r : x_m}  {K47 : Int32 → x_m → Option (x_m)} (hK47 : ∀ (l1 : Int32) (m : x_m), K47 l1 m = some r → x_W G M_MD_question (x_rd 147) (x_Q G (x_rd 147) ex (x_pv r)) ex x_np (x_hp m) 0 0 [(0, .ref 387), (1, .int l1)] [] 47)  {m : x_m} (h : B_MD_question_83 K47 m = some r) : x_W G M_MD_question (x_rd 147) (x_Q G (x_rd 147) ex (x_pv r)) ex x_np (x_hp m) 0 0 [(0, .ref 387)] [] 83 := by
  unfold B_MD_question_83 at h
  refine x_iconst (v := 0) d_MD_question_83 (by decide) ?_
  exact b_MD_question_84 hK47 h
def B_MD_question_47   : Nat → Int32 → x_m → Option (x_m)
  | 0, _, _ => none
  | f_ + 1, l1, m => (if l1 = 0 then (if (m.1 387 5) = 0 then ((F_MD_isWord 4 m).bind fun r97 => (if r97.1 = 0 then B_MD_question_111 r97.2 else ((F_MD_read r97.2).bind fun r104 => ((F_MD_either 42 r104).bind fun r108 => B_MD_question_111 r108)))) else B_MD_question_111 m) else ((F_MD_read m).bind fun r52 => ((F_MD_item0 r52).bind fun r56 => ((F_MD_read r56).bind fun r60 => (if (r60.1 387 5) = 0 then ((F_MD_isSign 44 r60).bind fun r73 => (if r73.1 = 0 then B_MD_question_83 (B_MD_question_47 f_) r73.2 else B_MD_question_84 (B_MD_question_47 f_) 1 r73.2)) else B_MD_question_83 (B_MD_question_47 f_) r60)))))
theorem b_MD_question_47 {G : x_G} {ex : Bool} {r : x_m}   : ∀ (f_ : Nat) (l1 : Int32) (m : x_m), B_MD_question_47 f_ l1 m = some r → x_W G M_MD_question (x_rd 147) (x_Q G (x_rd 147) ex (x_pv r)) ex x_np (x_hp m) 0 0 [(0, .ref 387), (1, .int l1)] [] 47 := by
  intro f_
  induction f_ with
  | zero => intro l1 m h; exact nomatch h
  | succ f_ ih =>
    intro l1 m h
    rw [B_MD_question_47] at h
    have hK47 := ih
    refine x_iload_n d_MD_question_47 rfl rfl ?_
    refine x_if_eq (tgt := 88) d_MD_question_48 (by decide) (fun c_ => ?_) (fun c_ => ?_)
    · replace h := x_it h c_
      refine x_aload_n d_MD_question_88 rfl rfl ?_
      refine x_gI d_MD_question_89 (f_MD_67 rfl) sh_MD hp_MD rfl ?_
      refine x_if_ne (tgt := 111) d_MD_question_92 (by decide) (fun c_ => ?_) (fun c_ => ?_)
      · replace h := x_ie h c_
        refine x_sbk [0] (lv2 := [(0, .ref 387)]) rfl ?_; exact b_MD_question_111 h
      · replace h := x_it h c_
        refine x_aload_n d_MD_question_95 rfl rfl ?_
        refine x_iconst (v := 4) d_MD_question_96 (by decide) ?_
        obtain ⟨r97, e97, h⟩ := x_bd h
        refine x_cVi (M2 := M_MD_isWord) (As := [.int 4]) (st := []) d_MD_question_97 w_1327 k_MD_isWord (c_MD_isWord e97) rfl sh_MD hp_MD rfl ⟨Nat.le_of_ble_eq_true rfl, Nat.le_of_ble_eq_true rfl⟩ (Nat.le_of_ble_eq_true rfl) (Nat.le_of_ble_eq_true rfl) rfl ?_
        refine x_if_eq (tgt := 111) d_MD_question_100 (by decide) (fun c_ => ?_) (fun c_ => ?_)
        · replace h := x_it h c_
          refine x_sbk [0] (lv2 := [(0, .ref 387)]) rfl ?_; exact b_MD_question_111 h
        · replace h := x_ie h c_
          refine x_aload_n d_MD_question_103 rfl rfl ?_
          obtain ⟨r104, e104, h⟩ := x_bd h
          refine x_cVv (M2 := M_MD_read) (As := []) (st := []) d_MD_question_104 w_1240 k_MD_read (c_MD_read e104) rfl sh_MD hp_MD rfl ⟨Nat.le_of_ble_eq_true rfl, Nat.le_of_ble_eq_true rfl⟩ (Nat.le_of_ble_eq_true rfl) (Nat.le_of_ble_eq_true rfl) rfl ?_
          refine x_aload_n d_MD_question_107 rfl rfl ?_
          obtain ⟨r108, e108, h⟩ := x_bd h
          refine x_cVv (M2 := M_MD_either) (As := []) (st := []) d_MD_question_108 w_1395 k_MD_either (c_MD_either 42 e108) rfl sh_MD hp_MD rfl ⟨Nat.le_of_ble_eq_true rfl, Nat.le_of_ble_eq_true rfl⟩ (Nat.le_of_ble_eq_true rfl) (Nat.le_of_ble_eq_true rfl) rfl ?_
          refine x_sbk [0] (lv2 := [(0, .ref 387)]) rfl ?_; exact b_MD_question_111 h
    · replace h := x_ie h c_
      refine x_aload_n d_MD_question_51 rfl rfl ?_
      obtain ⟨r52, e52, h⟩ := x_bd h
      refine x_cVv (M2 := M_MD_read) (As := []) (st := []) d_MD_question_52 w_1240 k_MD_read (c_MD_read e52) rfl sh_MD hp_MD rfl ⟨Nat.le_of_ble_eq_true rfl, Nat.le_of_ble_eq_true rfl⟩ (Nat.le_of_ble_eq_true rfl) (Nat.le_of_ble_eq_true rfl) rfl ?_
      refine x_aload_n d_MD_question_55 rfl rfl ?_
      obtain ⟨r56, e56, h⟩ := x_bd h
      refine x_cVv (M2 := M_MD_item0) (As := []) (st := []) d_MD_question_56 w_1383 k_MD_item0 (c_MD_item0 e56) rfl sh_MD hp_MD rfl ⟨Nat.le_of_ble_eq_true rfl, Nat.le_of_ble_eq_true rfl⟩ (Nat.le_of_ble_eq_true rfl) (Nat.le_of_ble_eq_true rfl) rfl ?_
      refine x_aload_n d_MD_question_59 rfl rfl ?_
      obtain ⟨r60, e60, h⟩ := x_bd h
      refine x_cVv (M2 := M_MD_read) (As := []) (st := []) d_MD_question_60 w_1240 k_MD_read (c_MD_read e60) rfl sh_MD hp_MD rfl ⟨Nat.le_of_ble_eq_true rfl, Nat.le_of_ble_eq_true rfl⟩ (Nat.le_of_ble_eq_true rfl) (Nat.le_of_ble_eq_true rfl) rfl ?_
      refine x_aload_n d_MD_question_63 rfl rfl ?_
      refine x_gI d_MD_question_64 (f_MD_67 rfl) sh_MD hp_MD rfl ?_
      refine x_if_ne (tgt := 83) d_MD_question_67 (by decide) (fun c_ => ?_) (fun c_ => ?_)
      · replace h := x_ie h c_
        refine x_sbk [0] (lv2 := [(0, .ref 387)]) rfl ?_; exact b_MD_question_83 hK47 h
      · replace h := x_it h c_
        refine x_aload_n d_MD_question_70 rfl rfl ?_
        refine x_bipush (v := 44) d_MD_question_71 (by decide) ?_
        obtain ⟨r73, e73, h⟩ := x_bd h
        refine x_cVi (M2 := M_MD_isSign) (As := [.int 44]) (st := []) d_MD_question_73 w_1363 k_MD_isSign (c_MD_isSign e73) rfl sh_MD hp_MD rfl ⟨Nat.le_of_ble_eq_true rfl, Nat.le_of_ble_eq_true rfl⟩ (Nat.le_of_ble_eq_true rfl) (Nat.le_of_ble_eq_true rfl) rfl ?_
        refine x_if_eq (tgt := 83) d_MD_question_76 (by decide) (fun c_ => ?_) (fun c_ => ?_)
        · replace h := x_it h c_
          refine x_sbk [0] (lv2 := [(0, .ref 387)]) rfl ?_; exact b_MD_question_83 hK47 h
        · replace h := x_ie h c_
          refine x_iconst (v := 1) d_MD_question_79 (by decide) ?_
          refine x_goto (tgt := 84) d_MD_question_80 (by decide) ?_
          refine x_sbk [0] (lv2 := [(0, .ref 387)]) rfl ?_; exact b_MD_question_84 hK47 h
def F_MD_question   (m : x_m) : Option (x_m) := (if x_mq (m.2.2.1 387 22) = true then (if x_mq ((x_wS m (m.2.2.1 387 22) 0 0).2.2.1 387 22) = true then (if x_mq ((x_wS (x_wS m (m.2.2.1 387 22) 0 0) ((x_wS m (m.2.2.1 387 22) 0 0).2.2.1 387 22) 4 0).2.2.1 387 22) = true then (if x_mq ((x_wS (x_wS (x_wS m (m.2.2.1 387 22) 0 0) ((x_wS m (m.2.2.1 387 22) 0 0).2.2.1 387 22) 4 0) ((x_wS (x_wS m (m.2.2.1 387 22) 0 0) ((x_wS m (m.2.2.1 387 22) 0 0).2.2.1 387 22) 4 0).2.2.1 387 22) 6 0).2.2.1 387 22) = true then (if x_mq ((x_wS (x_wS (x_wS (x_wS m (m.2.2.1 387 22) 0 0) ((x_wS m (m.2.2.1 387 22) 0 0).2.2.1 387 22) 4 0) ((x_wS (x_wS m (m.2.2.1 387 22) 0 0) ((x_wS m (m.2.2.1 387 22) 0 0).2.2.1 387 22) 4 0).2.2.1 387 22) 6 0) ((x_wS (x_wS (x_wS m (m.2.2.1 387 22) 0 0) ((x_wS m (m.2.2.1 387 22) 0 0).2.2.1 387 22) 4 0) ((x_wS (x_wS m (m.2.2.1 387 22) 0 0) ((x_wS m (m.2.2.1 387 22) 0 0).2.2.1 387 22) 4 0).2.2.1 387 22) 6 0).2.2.1 387 22) 11 0).2.2.1 387 22) = true then B_MD_question_47 x_fu 1 (x_wS (x_wS (x_wS (x_wS (x_wS (x_wS m (m.2.2.1 387 22) 0 0) ((x_wS m (m.2.2.1 387 22) 0 0).2.2.1 387 22) 4 0) ((x_wS (x_wS m (m.2.2.1 387 22) 0 0) ((x_wS m (m.2.2.1 387 22) 0 0).2.2.1 387 22) 4 0).2.2.1 387 22) 6 0) ((x_wS (x_wS (x_wS m (m.2.2.1 387 22) 0 0) ((x_wS m (m.2.2.1 387 22) 0 0).2.2.1 387 22) 4 0) ((x_wS (x_wS m (m.2.2.1 387 22) 0 0) ((x_wS m (m.2.2.1 387 22) 0 0).2.2.1 387 22) 4 0).2.2.1 387 22) 6 0).2.2.1 387 22) 11 0) ((x_wS (x_wS (x_wS (x_wS m (m.2.2.1 387 22) 0 0) ((x_wS m (m.2.2.1 387 22) 0 0).2.2.1 387 22) 4 0) ((x_wS (x_wS m (m.2.2.1 387 22) 0 0) ((x_wS m (m.2.2.1 387 22) 0 0).2.2.1 387 22) 4 0).2.2.1 387 22) 6 0) ((x_wS (x_wS (x_wS m (m.2.2.1 387 22) 0 0) ((x_wS m (m.2.2.1 387 22) 0 0).2.2.1 387 22) 4 0) ((x_wS (x_wS m (m.2.2.1 387 22) 0 0) ((x_wS m (m.2.2.1 387 22) 0 0).2.2.1 387 22) 4 0).2.2.1 387 22) 6 0).2.2.1 387 22) 11 0).2.2.1 387 22) 13 0) 387 24 0) else none) else none) else none) else none) else none)
theorem c_MD_question {G : x_G} {ex : Bool} {r : x_m}   {m : x_m} (h : F_MD_question m = some r) : x_R G M_MD_question (x_rd 147) ex [.ref 387] x_np (x_hp m) (x_pv r) := by
  unfold F_MD_question at h
  show x_W G M_MD_question (x_rd 147) (x_Q G (x_rd 147) ex (x_pv r)) ex x_np (x_hp m) 0 0 [(0, .ref 387)] [] 0
  refine x_aload_n d_MD_question_0 rfl rfl ?_
  refine x_gR d_MD_question_1 (f_MD_50 rfl) sh_MD hp_MD rfl ?_
  obtain ⟨g_1, h⟩ := x_gd h
  refine x_iconst (v := 0) d_MD_question_4 (by decide) ?_
  refine x_pIN d_MD_question_5 (f_MD_179 rfl) tb_MQ rfl (sh_MQ (x_mq_ok g_1)) (hp_MQ (x_mq_ok g_1)) rfl ⟨rfl, rfl⟩ ?_
  refine x_aload_n d_MD_question_8 rfl rfl ?_
  refine x_gR d_MD_question_9 (f_MD_50 rfl) sh_MD hp_MD rfl ?_
  obtain ⟨g_9, h⟩ := x_gd h
  refine x_iconst (v := 0) d_MD_question_12 (by decide) ?_
  refine x_pIN d_MD_question_13 (f_MD_240 rfl) tb_MQ rfl (sh_MQ (x_mq_ok g_9)) (hp_MQ (x_mq_ok g_9)) rfl ⟨rfl, rfl⟩ ?_
  refine x_aload_n d_MD_question_16 rfl rfl ?_
  refine x_gR d_MD_question_17 (f_MD_50 rfl) sh_MD hp_MD rfl ?_
  obtain ⟨g_17, h⟩ := x_gd h
  refine x_iconst (v := 0) d_MD_question_20 (by decide) ?_
  refine x_pIN d_MD_question_21 (f_MD_252 rfl) tb_MQ rfl (sh_MQ (x_mq_ok g_17)) (hp_MQ (x_mq_ok g_17)) rfl ⟨rfl, rfl⟩ ?_
  refine x_aload_n d_MD_question_24 rfl rfl ?_
  refine x_gR d_MD_question_25 (f_MD_50 rfl) sh_MD hp_MD rfl ?_
  obtain ⟨g_25, h⟩ := x_gd h
  refine x_iconst (v := 0) d_MD_question_28 (by decide) ?_
  refine x_pIN d_MD_question_29 (f_MD_196 rfl) tb_MQ rfl (sh_MQ (x_mq_ok g_25)) (hp_MQ (x_mq_ok g_25)) rfl ⟨rfl, rfl⟩ ?_
  refine x_aload_n d_MD_question_32 rfl rfl ?_
  refine x_gR d_MD_question_33 (f_MD_50 rfl) sh_MD hp_MD rfl ?_
  obtain ⟨g_33, h⟩ := x_gd h
  refine x_iconst (v := 0) d_MD_question_36 (by decide) ?_
  refine x_pIN d_MD_question_37 (f_MD_217 rfl) tb_MQ rfl (sh_MQ (x_mq_ok g_33)) (hp_MQ (x_mq_ok g_33)) rfl ⟨rfl, rfl⟩ ?_
  refine x_aload_n d_MD_question_40 rfl rfl ?_
  refine x_iconst (v := 0) d_MD_question_41 (by decide) ?_
  refine x_pI d_MD_question_42 (f_MD_208 rfl) tb_MD rfl sh_MD hp_MD rfl ⟨rfl, rfl⟩ ?_
  refine x_iconst (v := 1) d_MD_question_45 (by decide) ?_
  refine x_istore_n (lv2 := [(0, .ref 387), (1, .int 1)]) d_MD_question_46 rfl (by decide) rfl ?_
  exact b_MD_question_47 _ _ _ h
def B_MD_statement_126    (m : x_m) : Option (x_m) := some m
theorem b_MD_statement_126 {G : x_G} {ex : Bool} {r : x_m}    {m : x_m} (h : B_MD_statement_126 m = some r) : x_W G M_MD_statement (x_rd 148) (x_Q G (x_rd 148) ex (x_pv r)) ex x_np (x_hp m) 0 0 [] [] 126 := by
  unfold B_MD_statement_126 at h
  cases h
  exact x_rv d_MD_statement_126 rfl
def B_MD_statement_80    (m : x_m) : Option (x_m) := some m
theorem b_MD_statement_80 {G : x_G} {ex : Bool} {r : x_m}    {m : x_m} (h : B_MD_statement_80 m = some r) : x_W G M_MD_statement (x_rd 148) (x_Q G (x_rd 148) ex (x_pv r)) ex x_np (x_hp m) 0 0 [] [] 80 := by
  unfold B_MD_statement_80 at h
  cases h
  exact x_rv d_MD_statement_80 rfl
def B_MD_statement_68   (l1 : Int32) (s0 : Int32) (m : x_m) : Option (x_m) := ((F_MD_want s0 8 (m.1 387 8) m).bind fun r74 => (if r74.1 = 0 then B_MD_statement_80 r74.2 else ((F_MD_isWord 0 r74.2).bind fun r83 => (if r83.1 = 0 then ((F_MD_isWord 1 r83.2).bind fun r98 => (if r98.1 = 0 then (if l1 = 0 then ((F_MD_question r98.2).bind fun r123 => B_MD_statement_126 r123) else ((F_MD_member r98.2).bind fun r116 => B_MD_statement_126 r116)) else ((F_MD_measure r98.2).bind fun r105 => B_MD_statement_126 r105))) else ((F_MD_dimension0 r83.2).bind fun r90 => B_MD_statement_126 r90)))))
theorem b_MD_statement_68 {G : x_G} {ex : Bool} {r : x_m}   {l1 : Int32} {s0 : Int32} {m : x_m} (h : B_MD_statement_68 l1 s0 m = some r) : x_W G M_MD_statement (x_rd 148) (x_Q G (x_rd 148) ex (x_pv r)) ex x_np (x_hp m) 0 0 [(0, .ref 387), (1, .int l1)] [.int s0, .ref 387] 68 := by
  unfold B_MD_statement_68 at h
  refine x_bipush (v := 8) d_MD_statement_68 (by decide) ?_
  refine x_aload_n d_MD_statement_70 rfl rfl ?_
  refine x_gI d_MD_statement_71 (f_MD_77 rfl) sh_MD hp_MD rfl ?_
  obtain ⟨r74, e74, h⟩ := x_bd h
  refine x_cVi (M2 := M_MD_want) (As := [.int s0, .int 8, .int (m.1 387 8)]) (st := []) d_MD_statement_74 w_1315 k_MD_want (c_MD_want e74) rfl sh_MD hp_MD rfl ⟨Nat.le_of_ble_eq_true rfl, Nat.le_of_ble_eq_true rfl⟩ (Nat.le_of_ble_eq_true rfl) (Nat.le_of_ble_eq_true rfl) rfl ?_
  refine x_if_ne (tgt := 81) d_MD_statement_77 (by decide) (fun c_ => ?_) (fun c_ => ?_)
  · replace h := x_ie h c_
    refine x_aload_n d_MD_statement_81 rfl rfl ?_
    refine x_iconst (v := 0) d_MD_statement_82 (by decide) ?_
    obtain ⟨r83, e83, h⟩ := x_bd h
    refine x_cVi (M2 := M_MD_isWord) (As := [.int 0]) (st := []) d_MD_statement_83 w_1327 k_MD_isWord (c_MD_isWord e83) rfl sh_MD hp_MD rfl ⟨Nat.le_of_ble_eq_true rfl, Nat.le_of_ble_eq_true rfl⟩ (Nat.le_of_ble_eq_true rfl) (Nat.le_of_ble_eq_true rfl) rfl ?_
    refine x_if_eq (tgt := 96) d_MD_statement_86 (by decide) (fun c_ => ?_) (fun c_ => ?_)
    · replace h := x_it h c_
      refine x_aload_n d_MD_statement_96 rfl rfl ?_
      refine x_iconst (v := 1) d_MD_statement_97 (by decide) ?_
      obtain ⟨r98, e98, h⟩ := x_bd h
      refine x_cVi (M2 := M_MD_isWord) (As := [.int 1]) (st := []) d_MD_statement_98 w_1327 k_MD_isWord (c_MD_isWord e98) rfl sh_MD hp_MD rfl ⟨Nat.le_of_ble_eq_true rfl, Nat.le_of_ble_eq_true rfl⟩ (Nat.le_of_ble_eq_true rfl) (Nat.le_of_ble_eq_true rfl) rfl ?_
      refine x_if_eq (tgt := 111) d_MD_statement_101 (by decide) (fun c_ => ?_) (fun c_ => ?_)
      · replace h := x_it h c_
        refine x_iload_n d_MD_statement_111 rfl rfl ?_
        refine x_if_eq (tgt := 122) d_MD_statement_112 (by decide) (fun c_ => ?_) (fun c_ => ?_)
        · replace h := x_it h c_
          refine x_aload_n d_MD_statement_122 rfl rfl ?_
          obtain ⟨r123, e123, h⟩ := x_bd h
          refine x_cVv (M2 := M_MD_question) (As := []) (st := []) d_MD_statement_123 w_1379 k_MD_question (c_MD_question e123) rfl sh_MD hp_MD rfl ⟨Nat.le_of_ble_eq_true rfl, Nat.le_of_ble_eq_true rfl⟩ (Nat.le_of_ble_eq_true rfl) (Nat.le_of_ble_eq_true rfl) rfl ?_
          refine x_sbk [] (lv2 := []) rfl ?_; exact b_MD_statement_126 h
        · replace h := x_ie h c_
          refine x_aload_n d_MD_statement_115 rfl rfl ?_
          obtain ⟨r116, e116, h⟩ := x_bd h
          refine x_cVv (M2 := M_MD_member) (As := []) (st := []) d_MD_statement_116 w_1371 k_MD_member (c_MD_member e116) rfl sh_MD hp_MD rfl ⟨Nat.le_of_ble_eq_true rfl, Nat.le_of_ble_eq_true rfl⟩ (Nat.le_of_ble_eq_true rfl) (Nat.le_of_ble_eq_true rfl) rfl ?_
          refine x_goto (tgt := 126) d_MD_statement_119 (by decide) ?_
          refine x_sbk [] (lv2 := []) rfl ?_; exact b_MD_statement_126 h
      · replace h := x_ie h c_
        refine x_aload_n d_MD_statement_104 rfl rfl ?_
        obtain ⟨r105, e105, h⟩ := x_bd h
        refine x_cVv (M2 := M_MD_measure) (As := []) (st := []) d_MD_statement_105 w_1367 k_MD_measure (c_MD_measure e105) rfl sh_MD hp_MD rfl ⟨Nat.le_of_ble_eq_true rfl, Nat.le_of_ble_eq_true rfl⟩ (Nat.le_of_ble_eq_true rfl) (Nat.le_of_ble_eq_true rfl) rfl ?_
        refine x_goto (tgt := 126) d_MD_statement_108 (by decide) ?_
        refine x_sbk [] (lv2 := []) rfl ?_; exact b_MD_statement_126 h
    · replace h := x_ie h c_
      refine x_aload_n d_MD_statement_89 rfl rfl ?_
      obtain ⟨r90, e90, h⟩ := x_bd h
      refine x_cVv (M2 := M_MD_dimension0) (As := []) (st := []) d_MD_statement_90 w_1335 k_MD_dimension0 (c_MD_dimension0 e90) rfl sh_MD hp_MD rfl ⟨Nat.le_of_ble_eq_true rfl, Nat.le_of_ble_eq_true rfl⟩ (Nat.le_of_ble_eq_true rfl) (Nat.le_of_ble_eq_true rfl) rfl ?_
      refine x_goto (tgt := 126) d_MD_statement_93 (by decide) ?_
      refine x_sbk [] (lv2 := []) rfl ?_; exact b_MD_statement_126 h
  · replace h := x_it h c_
    refine x_sbk [] (lv2 := []) rfl ?_; exact b_MD_statement_80 h
def B_MD_statement_48   (l1 : Int32) (s0 : Int32) (m : x_m) : Option (x_m) := ((F_MD_must s0 m).bind fun r48 => (if r48.1 = 0 then B_MD_statement_80 r48.2 else (if l1 = (r48.2.1 387 2) then B_MD_statement_68 l1 0 r48.2 else B_MD_statement_68 l1 1 r48.2)))
theorem b_MD_statement_48 {G : x_G} {ex : Bool} {r : x_m}   {l1 : Int32} {s0 : Int32} {m : x_m} (h : B_MD_statement_48 l1 s0 m = some r) : x_W G M_MD_statement (x_rd 148) (x_Q G (x_rd 148) ex (x_pv r)) ex x_np (x_hp m) 0 0 [(0, .ref 387), (1, .int l1)] [.int s0, .ref 387] 48 := by
  unfold B_MD_statement_48 at h
  obtain ⟨r48, e48, h⟩ := x_bd h
  refine x_cVi (M2 := M_MD_must) (As := [.int s0]) (st := []) d_MD_statement_48 w_1331 k_MD_must (c_MD_must e48) rfl sh_MD hp_MD rfl ⟨Nat.le_of_ble_eq_true rfl, Nat.le_of_ble_eq_true rfl⟩ (Nat.le_of_ble_eq_true rfl) (Nat.le_of_ble_eq_true rfl) rfl ?_
  refine x_if_eq (tgt := 80) d_MD_statement_51 (by decide) (fun c_ => ?_) (fun c_ => ?_)
  · replace h := x_it h c_
    refine x_sbk [] (lv2 := []) rfl ?_; exact b_MD_statement_80 h
  · replace h := x_ie h c_
    refine x_aload_n d_MD_statement_54 rfl rfl ?_
    refine x_iload_n d_MD_statement_55 rfl rfl ?_
    refine x_aload_n d_MD_statement_56 rfl rfl ?_
    refine x_gI d_MD_statement_57 (f_MD_284 rfl) sh_MD hp_MD rfl ?_
    refine x_icmp_eq (tgt := 67) d_MD_statement_60 (by decide) (fun c_ => ?_) (fun c_ => ?_)
    · replace h := x_it h c_
      refine x_iconst (v := 0) d_MD_statement_67 (by decide) ?_
      exact b_MD_statement_68 h
    · replace h := x_ie h c_
      refine x_iconst (v := 1) d_MD_statement_63 (by decide) ?_
      refine x_goto (tgt := 68) d_MD_statement_64 (by decide) ?_
      exact b_MD_statement_68 h
def B_MD_statement_43   (l1 : Int32) (m : x_m) : Option (x_m) := B_MD_statement_48 l1 1 m
theorem b_MD_statement_43 {G : x_G} {ex : Bool} {r : x_m}   {l1 : Int32} {m : x_m} (h : B_MD_statement_43 l1 m = some r) : x_W G M_MD_statement (x_rd 148) (x_Q G (x_rd 148) ex (x_pv r)) ex x_np (x_hp m) 0 0 [(0, .ref 387), (1, .int l1)] [.ref 387] 43 := by
  unfold B_MD_statement_43 at h
  refine x_iconst (v := 1) d_MD_statement_43 (by decide) ?_
  refine x_goto (tgt := 48) d_MD_statement_44 (by decide) ?_
  exact b_MD_statement_48 h
def B_MD_statement_29   (s0 : Int32) (m : x_m) : Option (x_m) := (if s0 = 0 then ((F_MD_isWord 3 m).bind fun r37 => (if r37.1 = 0 then B_MD_statement_48 s0 0 r37.2 else B_MD_statement_43 s0 r37.2)) else B_MD_statement_43 s0 m)
theorem b_MD_statement_29 {G : x_G} {ex : Bool} {r : x_m}   {s0 : Int32} {m : x_m} (h : B_MD_statement_29 s0 m = some r) : x_W G M_MD_statement (x_rd 148) (x_Q G (x_rd 148) ex (x_pv r)) ex x_np (x_hp m) 0 0 [(0, .ref 387)] [.int s0] 29 := by
  unfold B_MD_statement_29 at h
  refine x_istore_n (lv2 := [(0, .ref 387), (1, .int s0)]) d_MD_statement_29 rfl (by decide) rfl ?_
  refine x_aload_n d_MD_statement_30 rfl rfl ?_
  refine x_iload_n d_MD_statement_31 rfl rfl ?_
  refine x_if_ne (tgt := 43) d_MD_statement_32 (by decide) (fun c_ => ?_) (fun c_ => ?_)
  · replace h := x_ie h c_
    exact b_MD_statement_43 h
  · replace h := x_it h c_
    refine x_aload_n d_MD_statement_35 rfl rfl ?_
    refine x_iconst (v := 3) d_MD_statement_36 (by decide) ?_
    obtain ⟨r37, e37, h⟩ := x_bd h
    refine x_cVi (M2 := M_MD_isWord) (As := [.int 3]) (st := [.ref 387]) d_MD_statement_37 w_1327 k_MD_isWord (c_MD_isWord e37) rfl sh_MD hp_MD rfl ⟨Nat.le_of_ble_eq_true rfl, Nat.le_of_ble_eq_true rfl⟩ (Nat.le_of_ble_eq_true rfl) (Nat.le_of_ble_eq_true rfl) rfl ?_
    refine x_if_eq (tgt := 47) d_MD_statement_40 (by decide) (fun c_ => ?_) (fun c_ => ?_)
    · replace h := x_it h c_
      refine x_iconst (v := 0) d_MD_statement_47 (by decide) ?_
      exact b_MD_statement_48 h
    · replace h := x_ie h c_
      exact b_MD_statement_43 h
def B_MD_statement_24    (m : x_m) : Option (x_m) := B_MD_statement_29 1 m
theorem b_MD_statement_24 {G : x_G} {ex : Bool} {r : x_m}    {m : x_m} (h : B_MD_statement_24 m = some r) : x_W G M_MD_statement (x_rd 148) (x_Q G (x_rd 148) ex (x_pv r)) ex x_np (x_hp m) 0 0 [(0, .ref 387)] [] 24 := by
  unfold B_MD_statement_24 at h
  refine x_iconst (v := 1) d_MD_statement_24 (by decide) ?_
  refine x_goto (tgt := 29) d_MD_statement_25 (by decide) ?_
  exact b_MD_statement_29 h
def F_MD_statement   (m : x_m) : Option (x_m) := ((F_MD_isWord 0 m).bind fun r2 => (if r2.1 = 0 then ((F_MD_isWord 1 r2.2).bind fun r10 => (if r10.1 = 0 then ((F_MD_isWord 2 r10.2).bind fun r18 => (if r18.1 = 0 then B_MD_statement_29 0 r18.2 else B_MD_statement_24 r18.2)) else B_MD_statement_24 r10.2)) else B_MD_statement_24 r2.2))
theorem c_MD_statement {G : x_G} {ex : Bool} {r : x_m}   {m : x_m} (h : F_MD_statement m = some r) : x_R G M_MD_statement (x_rd 148) ex [.ref 387] x_np (x_hp m) (x_pv r) := by
  unfold F_MD_statement at h
  show x_W G M_MD_statement (x_rd 148) (x_Q G (x_rd 148) ex (x_pv r)) ex x_np (x_hp m) 0 0 [(0, .ref 387)] [] 0
  refine x_aload_n d_MD_statement_0 rfl rfl ?_
  refine x_iconst (v := 0) d_MD_statement_1 (by decide) ?_
  obtain ⟨r2, e2, h⟩ := x_bd h
  refine x_cVi (M2 := M_MD_isWord) (As := [.int 0]) (st := []) d_MD_statement_2 w_1327 k_MD_isWord (c_MD_isWord e2) rfl sh_MD hp_MD rfl ⟨Nat.le_of_ble_eq_true rfl, Nat.le_of_ble_eq_true rfl⟩ (Nat.le_of_ble_eq_true rfl) (Nat.le_of_ble_eq_true rfl) rfl ?_
  refine x_if_ne (tgt := 24) d_MD_statement_5 (by decide) (fun c_ => ?_) (fun c_ => ?_)
  · replace h := x_ie h c_
    exact b_MD_statement_24 h
  · replace h := x_it h c_
    refine x_aload_n d_MD_statement_8 rfl rfl ?_
    refine x_iconst (v := 1) d_MD_statement_9 (by decide) ?_
    obtain ⟨r10, e10, h⟩ := x_bd h
    refine x_cVi (M2 := M_MD_isWord) (As := [.int 1]) (st := []) d_MD_statement_10 w_1327 k_MD_isWord (c_MD_isWord e10) rfl sh_MD hp_MD rfl ⟨Nat.le_of_ble_eq_true rfl, Nat.le_of_ble_eq_true rfl⟩ (Nat.le_of_ble_eq_true rfl) (Nat.le_of_ble_eq_true rfl) rfl ?_
    refine x_if_ne (tgt := 24) d_MD_statement_13 (by decide) (fun c_ => ?_) (fun c_ => ?_)
    · replace h := x_ie h c_
      exact b_MD_statement_24 h
    · replace h := x_it h c_
      refine x_aload_n d_MD_statement_16 rfl rfl ?_
      refine x_iconst (v := 2) d_MD_statement_17 (by decide) ?_
      obtain ⟨r18, e18, h⟩ := x_bd h
      refine x_cVi (M2 := M_MD_isWord) (As := [.int 2]) (st := []) d_MD_statement_18 w_1327 k_MD_isWord (c_MD_isWord e18) rfl sh_MD hp_MD rfl ⟨Nat.le_of_ble_eq_true rfl, Nat.le_of_ble_eq_true rfl⟩ (Nat.le_of_ble_eq_true rfl) (Nat.le_of_ble_eq_true rfl) rfl ?_
      refine x_if_eq (tgt := 28) d_MD_statement_21 (by decide) (fun c_ => ?_) (fun c_ => ?_)
      · replace h := x_it h c_
        refine x_iconst (v := 0) d_MD_statement_28 (by decide) ?_
        exact b_MD_statement_29 h
      · replace h := x_ie h c_
        exact b_MD_statement_24 h
def B_MD_run_71   (l1 : Int32) (m : x_m) : Option (Int32 × x_m) := some (l1, x_wS m 387 4 0)
theorem b_MD_run_71 {G : x_G} {ex : Bool} {r : Int32 × x_m}   {l1 : Int32} {m : x_m} (h : B_MD_run_71 l1 m = some r) : x_W G M_MD_run (x_rd 149) (x_Q G (x_rd 149) ex (x_pi r)) ex x_np (x_hp m) 0 0 [(0, .ref 387), (1, .int l1)] [] 71 := by
  unfold B_MD_run_71 at h
  refine x_aload_n d_MD_run_71 rfl rfl ?_
  refine x_iconst (v := 0) d_MD_run_72 (by decide) ?_
  refine x_pI d_MD_run_73 (f_MD_60 rfl) tb_MD rfl sh_MD hp_MD rfl ⟨rfl, rfl⟩ ?_
  refine x_iload_n d_MD_run_76 rfl rfl ?_
  cases h
  exact x_ri d_MD_run_77 rfl rfl
def B_MD_run_62  (K31 : Int32 → x_m → Option (Int32 × x_m)) (s0 : Int32) (s1 : Int32) (m : x_m) : Option (Int32 × x_m) := ((F_MD_read m).bind fun r65 => K31 (s1 + s0) r65)
theorem b_MD_run_62 {G : x_G} {ex : Bool} {r : Int32 × x_m}  {K31 : Int32 → x_m → Option (Int32 × x_m)} (hK31 : ∀ (l1 : Int32) (m : x_m), K31 l1 m = some r → x_W G M_MD_run (x_rd 149) (x_Q G (x_rd 149) ex (x_pi r)) ex x_np (x_hp m) 0 0 [(0, .ref 387), (1, .int l1)] [] 31) {s0 : Int32} {s1 : Int32} {m : x_m} (h : B_MD_run_62 K31 s0 s1 m = some r) : x_W G M_MD_run (x_rd 149) (x_Q G (x_rd 149) ex (x_pi r)) ex x_np (x_hp m) 0 0 [(0, .ref 387)] [.int s0, .int s1] 62 := by
  unfold B_MD_run_62 at h
  refine x_iadd d_MD_run_62 ?_
  refine x_istore_n (lv2 := [(0, .ref 387), (1, .int (s1 + s0))]) d_MD_run_63 rfl (by decide) rfl ?_
  refine x_aload_n d_MD_run_64 rfl rfl ?_
  obtain ⟨r65, e65, h⟩ := x_bd h
  refine x_cVv (M2 := M_MD_read) (As := []) (st := []) d_MD_run_65 w_1240 k_MD_read (c_MD_read e65) rfl sh_MD hp_MD rfl ⟨Nat.le_of_ble_eq_true rfl, Nat.le_of_ble_eq_true rfl⟩ (Nat.le_of_ble_eq_true rfl) (Nat.le_of_ble_eq_true rfl) rfl ?_
  refine x_goto (tgt := 31) d_MD_run_68 (by decide) ?_
  exact hK31 _ _ h
def B_MD_run_31   : Nat → Int32 → x_m → Option (Int32 × x_m)
  | 0, _, _ => none
  | f_ + 1, l1, m => (if (m.1 387 5) = 0 then (if (m.1 387 9) = 0 then B_MD_run_71 l1 m else ((F_MD_statement m).bind fun r46 => (if (r46.1 387 5) = 0 then B_MD_run_62 (B_MD_run_31 f_) 1 l1 r46 else B_MD_run_62 (B_MD_run_31 f_) 0 l1 r46))) else B_MD_run_71 l1 m)
theorem b_MD_run_31 {G : x_G} {ex : Bool} {r : Int32 × x_m}   : ∀ (f_ : Nat) (l1 : Int32) (m : x_m), B_MD_run_31 f_ l1 m = some r → x_W G M_MD_run (x_rd 149) (x_Q G (x_rd 149) ex (x_pi r)) ex x_np (x_hp m) 0 0 [(0, .ref 387), (1, .int l1)] [] 31 := by
  intro f_
  induction f_ with
  | zero => intro l1 m h; exact nomatch h
  | succ f_ ih =>
    intro l1 m h
    rw [B_MD_run_31] at h
    have hK31 := ih
    refine x_aload_n d_MD_run_31 rfl rfl ?_
    refine x_gI d_MD_run_32 (f_MD_67 rfl) sh_MD hp_MD rfl ?_
    refine x_if_ne (tgt := 71) d_MD_run_35 (by decide) (fun c_ => ?_) (fun c_ => ?_)
    · replace h := x_ie h c_
      exact b_MD_run_71 h
    · replace h := x_it h c_
      refine x_aload_n d_MD_run_38 rfl rfl ?_
      refine x_gI d_MD_run_39 (f_MD_86 rfl) sh_MD hp_MD rfl ?_
      refine x_if_eq (tgt := 71) d_MD_run_42 (by decide) (fun c_ => ?_) (fun c_ => ?_)
      · replace h := x_it h c_
        exact b_MD_run_71 h
      · replace h := x_ie h c_
        refine x_aload_n d_MD_run_45 rfl rfl ?_
        obtain ⟨r46, e46, h⟩ := x_bd h
        refine x_cVv (M2 := M_MD_statement) (As := []) (st := []) d_MD_run_46 w_1323 k_MD_statement (c_MD_statement e46) rfl sh_MD hp_MD rfl ⟨Nat.le_of_ble_eq_true rfl, Nat.le_of_ble_eq_true rfl⟩ (Nat.le_of_ble_eq_true rfl) (Nat.le_of_ble_eq_true rfl) rfl ?_
        refine x_iload_n d_MD_run_49 rfl rfl ?_
        refine x_aload_n d_MD_run_50 rfl rfl ?_
        refine x_gI d_MD_run_51 (f_MD_67 rfl) sh_MD hp_MD rfl ?_
        refine x_if_ne (tgt := 61) d_MD_run_54 (by decide) (fun c_ => ?_) (fun c_ => ?_)
        · replace h := x_ie h c_
          refine x_iconst (v := 0) d_MD_run_61 (by decide) ?_
          refine x_sbk [0] (lv2 := [(0, .ref 387)]) rfl ?_; exact b_MD_run_62 hK31 h
        · replace h := x_it h c_
          refine x_iconst (v := 1) d_MD_run_57 (by decide) ?_
          refine x_goto (tgt := 62) d_MD_run_58 (by decide) ?_
          refine x_sbk [0] (lv2 := [(0, .ref 387)]) rfl ?_; exact b_MD_run_62 hK31 h
def F_MD_run   (m : x_m) : Option (Int32 × x_m) := ((F_MD_read (x_wS (x_wS (x_wS (x_wS (x_wS m 387 1 0) 387 5 0) 387 6 ((-1))) 387 23 0) 387 7 0)).bind fun r28 => B_MD_run_31 x_fu 0 r28)
theorem c_MD_run {G : x_G} {ex : Bool} {r : Int32 × x_m}   {m : x_m} (h : F_MD_run m = some r) : x_R G M_MD_run (x_rd 149) ex [.ref 387] x_np (x_hp m) (x_pi r) := by
  unfold F_MD_run at h
  show x_W G M_MD_run (x_rd 149) (x_Q G (x_rd 149) ex (x_pi r)) ex x_np (x_hp m) 0 0 [(0, .ref 387)] [] 0
  refine x_aload_n d_MD_run_0 rfl rfl ?_
  refine x_iconst (v := 0) d_MD_run_1 (by decide) ?_
  refine x_pI d_MD_run_2 (f_MD_57 rfl) tb_MD rfl sh_MD hp_MD rfl ⟨rfl, rfl⟩ ?_
  refine x_aload_n d_MD_run_5 rfl rfl ?_
  refine x_iconst (v := 0) d_MD_run_6 (by decide) ?_
  refine x_pI d_MD_run_7 (f_MD_67 rfl) tb_MD rfl sh_MD hp_MD rfl ⟨rfl, rfl⟩ ?_
  refine x_aload_n d_MD_run_10 rfl rfl ?_
  refine x_iconst (v := (-1)) d_MD_run_11 (by decide) ?_
  refine x_pI d_MD_run_12 (f_MD_20 rfl) tb_MD rfl sh_MD hp_MD rfl ⟨rfl, rfl⟩ ?_
  refine x_aload_n d_MD_run_15 rfl rfl ?_
  refine x_iconst (v := 0) d_MD_run_16 (by decide) ?_
  refine x_pI d_MD_run_17 (f_MD_280 rfl) tb_MD rfl sh_MD hp_MD rfl ⟨rfl, rfl⟩ ?_
  refine x_aload_n d_MD_run_20 rfl rfl ?_
  refine x_iconst (v := 0) d_MD_run_21 (by decide) ?_
  refine x_pI d_MD_run_22 (f_MD_70 rfl) tb_MD rfl sh_MD hp_MD rfl ⟨rfl, rfl⟩ ?_
  refine x_iconst (v := 0) d_MD_run_25 (by decide) ?_
  refine x_istore_n (lv2 := [(0, .ref 387), (1, .int 0)]) d_MD_run_26 rfl (by decide) rfl ?_
  refine x_aload_n d_MD_run_27 rfl rfl ?_
  obtain ⟨r28, e28, h⟩ := x_bd h
  refine x_cVv (M2 := M_MD_read) (As := []) (st := []) d_MD_run_28 w_1240 k_MD_read (c_MD_read e28) rfl sh_MD hp_MD rfl ⟨Nat.le_of_ble_eq_true rfl, Nat.le_of_ble_eq_true rfl⟩ (Nat.le_of_ble_eq_true rfl) (Nat.le_of_ble_eq_true rfl) rfl ?_
  exact b_MD_run_31 _ _ _ h
