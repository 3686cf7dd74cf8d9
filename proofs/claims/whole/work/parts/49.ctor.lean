theorem fr_QR (G : x_G) : ∀ j, j < 5 → defaultValue (t_QR j) = vp_V (([.null, .null, .null, .null, .null] : List Value).map (x_v G)) j := fun j hj => match j, hj with | 0, _ => rfl | 1, _ => rfl | 2, _ => rfl | 3, _ => rfl | 4, _ => rfl | _ + 5, hz => absurd hz (by omega)
theorem fr_TX (G : x_G) : ∀ j, j < 2 → defaultValue (t_TX j) = vp_V (([.null, .int 0] : List Value).map (x_v G)) j := fun j hj => match j, hj with | 0, _ => rfl | 1, _ => rfl | _ + 2, hz => absurd hz (by omega)
theorem fr_LX (G : x_G) : ∀ j, j < 9 → defaultValue (t_LX j) = vp_V (([.null, .null, .int 0, .int 0, .int 0, .int 0, .int 0, .int 0, .int 0] : List Value).map (x_v G)) j := fun j hj => match j, hj with | 0, _ => rfl | 1, _ => rfl | 2, _ => rfl | 3, _ => rfl | 4, _ => rfl | 5, _ => rfl | 6, _ => rfl | 7, _ => rfl | 8, _ => rfl | _ + 9, hz => absurd hz (by omega)
theorem fr_CT (G : x_G) : ∀ j, j < 5 → defaultValue (t_CT j) = vp_V (([.null, .null, .int 0, .int 0, .int 0] : List Value).map (x_v G)) j := fun j hj => match j, hj with | 0, _ => rfl | 1, _ => rfl | 2, _ => rfl | 3, _ => rfl | 4, _ => rfl | _ + 5, hz => absurd hz (by omega)
theorem fr_NM (G : x_G) : ∀ j, j < 2 → defaultValue (t_NM j) = vp_V (([.null, .null] : List Value).map (x_v G)) j := fun j hj => match j, hj with | 0, _ => rfl | 1, _ => rfl | _ + 2, hz => absurd hz (by omega)
theorem fr_DM (G : x_G) : ∀ j, j < 7 → defaultValue (t_DM j) = vp_V (([.int 0, .int 0, .int 0, .null, .null, .null, .null] : List Value).map (x_v G)) j := fun j hj => match j, hj with | 0, _ => rfl | 1, _ => rfl | 2, _ => rfl | 3, _ => rfl | 4, _ => rfl | 5, _ => rfl | 6, _ => rfl | _ + 7, hz => absurd hz (by omega)
theorem fr_CG (G : x_G) : ∀ j, j < 3 → defaultValue (t_CG j) = vp_V (([.null, .null, .null] : List Value).map (x_v G)) j := fun j hj => match j, hj with | 0, _ => rfl | 1, _ => rfl | 2, _ => rfl | _ + 3, hz => absurd hz (by omega)
theorem fr_QG (G : x_G) : ∀ j, j < 5 → defaultValue (t_QG j) = vp_V (([.null, .null, .null, .null, .null] : List Value).map (x_v G)) j := fun j hj => match j, hj with | 0, _ => rfl | 1, _ => rfl | 2, _ => rfl | 3, _ => rfl | 4, _ => rfl | _ + 5, hz => absurd hz (by omega)
theorem fr_QU (G : x_G) : ∀ j, j < 9 → defaultValue (t_QU j) = vp_V (([.int 0, .null, .null, .null, .int 0, .null, .int 0, .null, .null] : List Value).map (x_v G)) j := fun j hj => match j, hj with | 0, _ => rfl | 1, _ => rfl | 2, _ => rfl | 3, _ => rfl | 4, _ => rfl | 5, _ => rfl | 6, _ => rfl | 7, _ => rfl | 8, _ => rfl | _ + 9, hz => absurd hz (by omega)
theorem fr_CN (G : x_G) : ∀ j, j < 12 → defaultValue (t_CN j) = vp_V (([.int 0, .int 0, .null, .int 0, .null, .null, .null, .null, .null, .null, .null, .null] : List Value).map (x_v G)) j := fun j hj => match j, hj with | 0, _ => rfl | 1, _ => rfl | 2, _ => rfl | 3, _ => rfl | 4, _ => rfl | 5, _ => rfl | 6, _ => rfl | 7, _ => rfl | 8, _ => rfl | 9, _ => rfl | 10, _ => rfl | 11, _ => rfl | _ + 12, hz => absurd hz (by omega)
theorem fr_CP (G : x_G) : ∀ j, j < 6 → defaultValue (t_CP j) = vp_V (([.int 0, .int 0, .int 0, .int 0, .int 0, .null] : List Value).map (x_v G)) j := fun j hj => match j, hj with | 0, _ => rfl | 1, _ => rfl | 2, _ => rfl | 3, _ => rfl | 4, _ => rfl | 5, _ => rfl | _ + 6, hz => absurd hz (by omega)
theorem fr_MD (G : x_G) : ∀ j, j < 27 → defaultValue (t_MD j) = vp_V (([.null, .int 0, .int 0, .null, .int 0, .int 0, .int 0, .int 0, .int 0, .int 0, .int 0, .int 0, .int 0, .int 0, .null, .null, .null, .null, .int 0, .null, .null, .null, .null, .int 0, .int 0, .int 0, .null] : List Value).map (x_v G)) j := fun j hj => match j, hj with | 0, _ => rfl | 1, _ => rfl | 2, _ => rfl | 3, _ => rfl | 4, _ => rfl | 5, _ => rfl | 6, _ => rfl | 7, _ => rfl | 8, _ => rfl | 9, _ => rfl | 10, _ => rfl | 11, _ => rfl | 12, _ => rfl | 13, _ => rfl | 14, _ => rfl | 15, _ => rfl | 16, _ => rfl | 17, _ => rfl | 18, _ => rfl | 19, _ => rfl | 20, _ => rfl | 21, _ => rfl | 22, _ => rfl | 23, _ => rfl | 24, _ => rfl | 25, _ => rfl | 26, _ => rfl | _ + 27, hz => absurd hz (by omega)
theorem fr_MQ (G : x_G) : ∀ j, j < 19 → defaultValue (t_MQ j) = vp_V (([.int 0, .null, .null, .null, .int 0, .null, .int 0, .null, .null, .int 0, .null, .int 0, .null, .int 0, .null, .null, .null, .null, .null] : List Value).map (x_v G)) j := fun j hj => match j, hj with | 0, _ => rfl | 1, _ => rfl | 2, _ => rfl | 3, _ => rfl | 4, _ => rfl | 5, _ => rfl | 6, _ => rfl | 7, _ => rfl | 8, _ => rfl | 9, _ => rfl | 10, _ => rfl | 11, _ => rfl | 12, _ => rfl | 13, _ => rfl | 14, _ => rfl | 15, _ => rfl | 16, _ => rfl | 17, _ => rfl | 18, _ => rfl | _ + 19, hz => absurd hz (by omega)
theorem x_S0z {p : Nat} (h1 : p ≠ 3) (h2 : p ≠ 387) : x_m0.1 p = fun _ => 0 := funext fun k => (if_neg (fun z => h1 z.1)).trans (if_neg (fun z => h2 z.1))
theorem x_DM_b {p : Nat} (h : x_DM p) : (p - 9) % 13 = 0 ∧ 9 ≤ p ∧ p + 13 ≤ 113 := by obtain ⟨d, hd, rfl⟩ := h; omega
theorem x_CP_b {p : Nat} (h : x_CP p) : 131 ≤ p ∧ p + 2 ≤ 387 := by obtain ⟨b, i, hb, hi, rfl⟩ := h; rcases hb with rfl | rfl <;> omega
theorem x_QB_b {p : Nat} (h : x_QB p) : 115 ≤ p ∧ p + 136 ≤ 387 := by rcases h with rfl | rfl <;> omega
theorem x_CN_b {p : Nat} (h : x_CN p) : 121 ≤ p ∧ p + 130 ≤ 387 := by rcases h with rfl | rfl <;> omega
theorem x_MQ_b {p : Nat} (h : x_MQ p) : 395 ≤ p ∧ p + 14 ≤ 423 := by rcases h with rfl | rfl <;> omega
def M_CP_init : x_M := (⟨"QuestionReader$Comparison", "<init>", "()V"⟩, prog_4_method_1_code, 1, none, [])
theorem d_CP_init_0 : decode M_CP_init.2.1 0 = .ok (.aload_n 0, 1) := by decide +kernel
theorem d_CP_init_1 : decode M_CP_init.2.1 1 = .ok (.invokespecial 1, 3) := by decide +kernel
theorem d_CP_init_4 : decode M_CP_init.2.1 4 = .ok (.aload_n 0, 1) := by decide +kernel
theorem d_CP_init_5 : decode M_CP_init.2.1 5 = .ok (.bipush 40, 2) := by decide +kernel
theorem d_CP_init_7 : decode M_CP_init.2.1 7 = .ok (.newarray .int, 2) := by decide +kernel
theorem d_CP_init_9 : decode M_CP_init.2.1 9 = .ok (.putfield 9, 3) := by decide +kernel
theorem d_CP_init_12 : decode M_CP_init.2.1 12 = .ok (.return_, 1) := by decide +kernel
theorem ki_CP_init : x_ki M_CP_init 0 := ⟨⟨by decide, Or.inl ⟨w_231, rfl⟩⟩, w_231, rfl, w_230, ⟨by decide, by decide⟩, by decide +kernel⟩
def M_NM_init : x_M := (⟨"QuestionReader$Names", "<init>", "()V"⟩, prog_9_method_1_code, 1, none, [])
theorem d_NM_init_0 : decode M_NM_init.2.1 0 = .ok (.aload_n 0, 1) := by decide +kernel
theorem d_NM_init_1 : decode M_NM_init.2.1 1 = .ok (.invokespecial 3, 3) := by decide +kernel
theorem d_NM_init_4 : decode M_NM_init.2.1 4 = .ok (.aload_n 0, 1) := by decide +kernel
theorem d_NM_init_5 : decode M_NM_init.2.1 5 = .ok (.sipush 1920, 3) := by decide +kernel
theorem d_NM_init_8 : decode M_NM_init.2.1 8 = .ok (.newarray .byte, 2) := by decide +kernel
theorem d_NM_init_10 : decode M_NM_init.2.1 10 = .ok (.putfield 11, 3) := by decide +kernel
theorem d_NM_init_13 : decode M_NM_init.2.1 13 = .ok (.aload_n 0, 1) := by decide +kernel
theorem d_NM_init_14 : decode M_NM_init.2.1 14 = .ok (.bipush 48, 2) := by decide +kernel
theorem d_NM_init_16 : decode M_NM_init.2.1 16 = .ok (.newarray .int, 2) := by decide +kernel
theorem d_NM_init_18 : decode M_NM_init.2.1 18 = .ok (.putfield 15, 3) := by decide +kernel
theorem d_NM_init_21 : decode M_NM_init.2.1 21 = .ok (.return_, 1) := by decide +kernel
theorem ki_NM_init : x_ki M_NM_init 0 := ⟨⟨by decide, Or.inl ⟨w_111, rfl⟩⟩, w_111, rfl, w_110, ⟨by decide, by decide⟩, by decide +kernel⟩
def M_TX_init : x_M := (⟨"QuestionReader$Text", "<init>", "()V"⟩, prog_12_method_1_code, 1, none, [])
theorem d_TX_init_0 : decode M_TX_init.2.1 0 = .ok (.aload_n 0, 1) := by decide +kernel
theorem d_TX_init_1 : decode M_TX_init.2.1 1 = .ok (.invokespecial 1, 3) := by decide +kernel
theorem d_TX_init_4 : decode M_TX_init.2.1 4 = .ok (.aload_n 0, 1) := by decide +kernel
theorem d_TX_init_5 : decode M_TX_init.2.1 5 = .ok (.ldc 9, 2) := by decide +kernel
theorem d_TX_init_7 : decode M_TX_init.2.1 7 = .ok (.newarray .byte, 2) := by decide +kernel
theorem d_TX_init_9 : decode M_TX_init.2.1 9 = .ok (.putfield 10, 3) := by decide +kernel
theorem d_TX_init_12 : decode M_TX_init.2.1 12 = .ok (.return_, 1) := by decide +kernel
theorem ki_TX_init : x_ki M_TX_init 0 := ⟨⟨by decide, Or.inl ⟨w_38, rfl⟩⟩, w_38, rfl, w_37, ⟨by decide, by decide⟩, by decide +kernel⟩
def M_LX_init : x_M := (⟨"QuestionReader$Lexer", "<init>", "(LQuestionReader$Text;)V"⟩, prog_8_method_1_code, 2, none, [])
theorem d_LX_init_0 : decode M_LX_init.2.1 0 = .ok (.aload_n 0, 1) := by decide +kernel
theorem d_LX_init_1 : decode M_LX_init.2.1 1 = .ok (.invokespecial 3, 3) := by decide +kernel
theorem d_LX_init_4 : decode M_LX_init.2.1 4 = .ok (.aload_n 0, 1) := by decide +kernel
theorem d_LX_init_5 : decode M_LX_init.2.1 5 = .ok (.getstatic 9, 3) := by decide +kernel
theorem d_LX_init_8 : decode M_LX_init.2.1 8 = .ok (.putfield 15, 3) := by decide +kernel
theorem d_LX_init_11 : decode M_LX_init.2.1 11 = .ok (.aload_n 0, 1) := by decide +kernel
theorem d_LX_init_12 : decode M_LX_init.2.1 12 = .ok (.iconst (-1), 1) := by decide +kernel
theorem d_LX_init_13 : decode M_LX_init.2.1 13 = .ok (.putfield 20, 3) := by decide +kernel
theorem d_LX_init_16 : decode M_LX_init.2.1 16 = .ok (.aload_n 0, 1) := by decide +kernel
theorem d_LX_init_17 : decode M_LX_init.2.1 17 = .ok (.aload_n 1, 1) := by decide +kernel
theorem d_LX_init_18 : decode M_LX_init.2.1 18 = .ok (.putfield 24, 3) := by decide +kernel
theorem d_LX_init_21 : decode M_LX_init.2.1 21 = .ok (.return_, 1) := by decide +kernel
theorem ki_LX_init : x_ki M_LX_init 1 := ⟨⟨by decide, Or.inl ⟨w_57, rfl⟩⟩, w_57, rfl, w_56, ⟨by decide, by decide⟩, by decide +kernel⟩
def M_DM_init : x_M := (⟨"QuestionReader$Dimension", "<init>", "()V"⟩, prog_6_method_1_code, 2, none, [])
theorem d_DM_init_0 : decode M_DM_init.2.1 0 = .ok (.aload_n 0, 1) := by decide +kernel
theorem d_DM_init_1 : decode M_DM_init.2.1 1 = .ok (.invokespecial 3, 3) := by decide +kernel
theorem d_DM_init_4 : decode M_DM_init.2.1 4 = .ok (.aload_n 0, 1) := by decide +kernel
theorem d_DM_init_5 : decode M_DM_init.2.1 5 = .ok (.iconst 4, 1) := by decide +kernel
theorem d_DM_init_6 : decode M_DM_init.2.1 6 = .ok (.sipush 1000, 3) := by decide +kernel
theorem d_DM_init_9 : decode M_DM_init.2.1 9 = .ok (.multianewarray 11 2, 4) := by decide +kernel
theorem d_DM_init_13 : decode M_DM_init.2.1 13 = .ok (.putfield 13, 3) := by decide +kernel
theorem d_DM_init_16 : decode M_DM_init.2.1 16 = .ok (.aload_n 0, 1) := by decide +kernel
theorem d_DM_init_17 : decode M_DM_init.2.1 17 = .ok (.sipush 1000, 3) := by decide +kernel
theorem d_DM_init_20 : decode M_DM_init.2.1 20 = .ok (.newarray .int, 2) := by decide +kernel
theorem d_DM_init_22 : decode M_DM_init.2.1 22 = .ok (.putfield 16, 3) := by decide +kernel
theorem d_DM_init_25 : decode M_DM_init.2.1 25 = .ok (.aload_n 0, 1) := by decide +kernel
theorem d_DM_init_26 : decode M_DM_init.2.1 26 = .ok (.iconst 4, 1) := by decide +kernel
theorem d_DM_init_27 : decode M_DM_init.2.1 27 = .ok (.sipush 1000, 3) := by decide +kernel
theorem d_DM_init_30 : decode M_DM_init.2.1 30 = .ok (.multianewarray 11 2, 4) := by decide +kernel
theorem d_DM_init_34 : decode M_DM_init.2.1 34 = .ok (.putfield 20, 3) := by decide +kernel
theorem d_DM_init_37 : decode M_DM_init.2.1 37 = .ok (.aload_n 0, 1) := by decide +kernel
theorem d_DM_init_38 : decode M_DM_init.2.1 38 = .ok (.iconst 4, 1) := by decide +kernel
theorem d_DM_init_39 : decode M_DM_init.2.1 39 = .ok (.newarray .int, 2) := by decide +kernel
theorem d_DM_init_41 : decode M_DM_init.2.1 41 = .ok (.putfield 23, 3) := by decide +kernel
theorem d_DM_init_44 : decode M_DM_init.2.1 44 = .ok (.iconst 0, 1) := by decide +kernel
theorem d_DM_init_45 : decode M_DM_init.2.1 45 = .ok (.istore_n 1, 1) := by decide +kernel
theorem d_DM_init_46 : decode M_DM_init.2.1 46 = .ok (.iload_n 1, 1) := by decide +kernel
theorem d_DM_init_47 : decode M_DM_init.2.1 47 = .ok (.sipush 1000, 3) := by decide +kernel
theorem d_DM_init_50 : decode M_DM_init.2.1 50 = .ok (.if_icmp .ge 16, 3) := by decide +kernel
theorem d_DM_init_53 : decode M_DM_init.2.1 53 = .ok (.aload_n 0, 1) := by decide +kernel
theorem d_DM_init_54 : decode M_DM_init.2.1 54 = .ok (.getfield 16, 3) := by decide +kernel
theorem d_DM_init_57 : decode M_DM_init.2.1 57 = .ok (.iload_n 1, 1) := by decide +kernel
theorem d_DM_init_58 : decode M_DM_init.2.1 58 = .ok (.iload_n 1, 1) := by decide +kernel
theorem d_DM_init_59 : decode M_DM_init.2.1 59 = .ok (.iastore, 1) := by decide +kernel
theorem d_DM_init_60 : decode M_DM_init.2.1 60 = .ok (.iinc 1 1, 3) := by decide +kernel
theorem d_DM_init_63 : decode M_DM_init.2.1 63 = .ok (.goto (-17), 3) := by decide +kernel
theorem d_DM_init_66 : decode M_DM_init.2.1 66 = .ok (.return_, 1) := by decide +kernel
theorem ki_DM_init : x_ki M_DM_init 0 := ⟨⟨by decide, Or.inl ⟨w_126, rfl⟩⟩, w_126, rfl, w_125, ⟨by decide, by decide⟩, by decide +kernel⟩
def M_CT_init : x_M := (⟨"QuestionReader$Catalog", "<init>", "()V"⟩, prog_2_method_1_code, 2, none, [])
theorem d_CT_init_0 : decode M_CT_init.2.1 0 = .ok (.aload_n 0, 1) := by decide +kernel
theorem d_CT_init_1 : decode M_CT_init.2.1 1 = .ok (.invokespecial 3, 3) := by decide +kernel
theorem d_CT_init_4 : decode M_CT_init.2.1 4 = .ok (.aload_n 0, 1) := by decide +kernel
theorem d_CT_init_5 : decode M_CT_init.2.1 5 = .ok (.new 9, 3) := by decide +kernel
theorem d_CT_init_8 : decode M_CT_init.2.1 8 = .ok (.dup, 1) := by decide +kernel
theorem d_CT_init_9 : decode M_CT_init.2.1 9 = .ok (.invokespecial 11, 3) := by decide +kernel
theorem d_CT_init_12 : decode M_CT_init.2.1 12 = .ok (.putfield 12, 3) := by decide +kernel
theorem d_CT_init_15 : decode M_CT_init.2.1 15 = .ok (.aload_n 0, 1) := by decide +kernel
theorem d_CT_init_16 : decode M_CT_init.2.1 16 = .ok (.bipush 8, 2) := by decide +kernel
theorem d_CT_init_18 : decode M_CT_init.2.1 18 = .ok (.anewarray 18, 3) := by decide +kernel
theorem d_CT_init_21 : decode M_CT_init.2.1 21 = .ok (.putfield 20, 3) := by decide +kernel
theorem d_CT_init_24 : decode M_CT_init.2.1 24 = .ok (.iconst 0, 1) := by decide +kernel
theorem d_CT_init_25 : decode M_CT_init.2.1 25 = .ok (.istore_n 1, 1) := by decide +kernel
theorem d_CT_init_26 : decode M_CT_init.2.1 26 = .ok (.iload_n 1, 1) := by decide +kernel
theorem d_CT_init_27 : decode M_CT_init.2.1 27 = .ok (.bipush 8, 2) := by decide +kernel
theorem d_CT_init_29 : decode M_CT_init.2.1 29 = .ok (.if_icmp .ge 22, 3) := by decide +kernel
theorem d_CT_init_32 : decode M_CT_init.2.1 32 = .ok (.aload_n 0, 1) := by decide +kernel
theorem d_CT_init_33 : decode M_CT_init.2.1 33 = .ok (.getfield 20, 3) := by decide +kernel
theorem d_CT_init_36 : decode M_CT_init.2.1 36 = .ok (.iload_n 1, 1) := by decide +kernel
theorem d_CT_init_37 : decode M_CT_init.2.1 37 = .ok (.new 18, 3) := by decide +kernel
theorem d_CT_init_40 : decode M_CT_init.2.1 40 = .ok (.dup, 1) := by decide +kernel
theorem d_CT_init_41 : decode M_CT_init.2.1 41 = .ok (.invokespecial 24, 3) := by decide +kernel
theorem d_CT_init_44 : decode M_CT_init.2.1 44 = .ok (.aastore, 1) := by decide +kernel
theorem d_CT_init_45 : decode M_CT_init.2.1 45 = .ok (.iinc 1 1, 3) := by decide +kernel
theorem d_CT_init_48 : decode M_CT_init.2.1 48 = .ok (.goto (-22), 3) := by decide +kernel
theorem d_CT_init_51 : decode M_CT_init.2.1 51 = .ok (.return_, 1) := by decide +kernel
theorem ki_CT_init : x_ki M_CT_init 0 := ⟨⟨by decide, Or.inl ⟨w_105, rfl⟩⟩, w_105, rfl, w_104, ⟨by decide, by decide⟩, by decide +kernel⟩
def M_CG_init : x_M := (⟨"QuestionReader$CatalogGrammar", "<init>", "(LQuestionReader$Lexer;LQuestionReader$Catalog;)V"⟩, prog_3_method_1_code, 3, none, [])
theorem d_CG_init_0 : decode M_CG_init.2.1 0 = .ok (.aload_n 0, 1) := by decide +kernel
theorem d_CG_init_1 : decode M_CG_init.2.1 1 = .ok (.invokespecial 3, 3) := by decide +kernel
theorem d_CG_init_4 : decode M_CG_init.2.1 4 = .ok (.aload_n 0, 1) := by decide +kernel
theorem d_CG_init_5 : decode M_CG_init.2.1 5 = .ok (.aload_n 1, 1) := by decide +kernel
theorem d_CG_init_6 : decode M_CG_init.2.1 6 = .ok (.putfield 9, 3) := by decide +kernel
theorem d_CG_init_9 : decode M_CG_init.2.1 9 = .ok (.aload_n 0, 1) := by decide +kernel
theorem d_CG_init_10 : decode M_CG_init.2.1 10 = .ok (.aload_n 2, 1) := by decide +kernel
theorem d_CG_init_11 : decode M_CG_init.2.1 11 = .ok (.putfield 15, 3) := by decide +kernel
theorem d_CG_init_14 : decode M_CG_init.2.1 14 = .ok (.aload_n 0, 1) := by decide +kernel
theorem d_CG_init_15 : decode M_CG_init.2.1 15 = .ok (.aload_n 2, 1) := by decide +kernel
theorem d_CG_init_16 : decode M_CG_init.2.1 16 = .ok (.getfield 19, 3) := by decide +kernel
theorem d_CG_init_19 : decode M_CG_init.2.1 19 = .ok (.putfield 25, 3) := by decide +kernel
theorem d_CG_init_22 : decode M_CG_init.2.1 22 = .ok (.return_, 1) := by decide +kernel
theorem ki_CG_init : x_ki M_CG_init 2 := ⟨⟨by decide, Or.inl ⟨w_196, rfl⟩⟩, w_196, rfl, w_195, ⟨by decide, by decide⟩, by decide +kernel⟩
def M_CN_init : x_M := (⟨"QuestionReader$Condition", "<init>", "()V"⟩, prog_5_method_1_code, 2, none, [])
theorem d_CN_init_0 : decode M_CN_init.2.1 0 = .ok (.aload_n 0, 1) := by decide +kernel
theorem d_CN_init_1 : decode M_CN_init.2.1 1 = .ok (.invokespecial 5, 3) := by decide +kernel
theorem d_CN_init_4 : decode M_CN_init.2.1 4 = .ok (.aload_n 0, 1) := by decide +kernel
theorem d_CN_init_5 : decode M_CN_init.2.1 5 = .ok (.bipush 60, 2) := by decide +kernel
theorem d_CN_init_7 : decode M_CN_init.2.1 7 = .ok (.anewarray 11, 3) := by decide +kernel
theorem d_CN_init_10 : decode M_CN_init.2.1 10 = .ok (.putfield 13, 3) := by decide +kernel
theorem d_CN_init_13 : decode M_CN_init.2.1 13 = .ok (.aload_n 0, 1) := by decide +kernel
theorem d_CN_init_14 : decode M_CN_init.2.1 14 = .ok (.bipush 59, 2) := by decide +kernel
theorem d_CN_init_16 : decode M_CN_init.2.1 16 = .ok (.newarray .int, 2) := by decide +kernel
theorem d_CN_init_18 : decode M_CN_init.2.1 18 = .ok (.putfield 17, 3) := by decide +kernel
theorem d_CN_init_21 : decode M_CN_init.2.1 21 = .ok (.aload_n 0, 1) := by decide +kernel
theorem d_CN_init_22 : decode M_CN_init.2.1 22 = .ok (.bipush 59, 2) := by decide +kernel
theorem d_CN_init_24 : decode M_CN_init.2.1 24 = .ok (.newarray .int, 2) := by decide +kernel
theorem d_CN_init_26 : decode M_CN_init.2.1 26 = .ok (.putfield 21, 3) := by decide +kernel
theorem d_CN_init_29 : decode M_CN_init.2.1 29 = .ok (.aload_n 0, 1) := by decide +kernel
theorem d_CN_init_30 : decode M_CN_init.2.1 30 = .ok (.bipush 59, 2) := by decide +kernel
theorem d_CN_init_32 : decode M_CN_init.2.1 32 = .ok (.newarray .boolean, 2) := by decide +kernel
theorem d_CN_init_34 : decode M_CN_init.2.1 34 = .ok (.putfield 24, 3) := by decide +kernel
theorem d_CN_init_37 : decode M_CN_init.2.1 37 = .ok (.aload_n 0, 1) := by decide +kernel
theorem d_CN_init_38 : decode M_CN_init.2.1 38 = .ok (.bipush 119, 2) := by decide +kernel
theorem d_CN_init_40 : decode M_CN_init.2.1 40 = .ok (.newarray .boolean, 2) := by decide +kernel
theorem d_CN_init_42 : decode M_CN_init.2.1 42 = .ok (.putfield 28, 3) := by decide +kernel
theorem d_CN_init_45 : decode M_CN_init.2.1 45 = .ok (.aload_n 0, 1) := by decide +kernel
theorem d_CN_init_46 : decode M_CN_init.2.1 46 = .ok (.bipush 119, 2) := by decide +kernel
theorem d_CN_init_48 : decode M_CN_init.2.1 48 = .ok (.newarray .boolean, 2) := by decide +kernel
theorem d_CN_init_50 : decode M_CN_init.2.1 50 = .ok (.putfield 31, 3) := by decide +kernel
theorem d_CN_init_53 : decode M_CN_init.2.1 53 = .ok (.aload_n 0, 1) := by decide +kernel
theorem d_CN_init_54 : decode M_CN_init.2.1 54 = .ok (.bipush 41, 2) := by decide +kernel
theorem d_CN_init_56 : decode M_CN_init.2.1 56 = .ok (.newarray .int, 2) := by decide +kernel
theorem d_CN_init_58 : decode M_CN_init.2.1 58 = .ok (.putfield 34, 3) := by decide +kernel
theorem d_CN_init_61 : decode M_CN_init.2.1 61 = .ok (.aload_n 0, 1) := by decide +kernel
theorem d_CN_init_62 : decode M_CN_init.2.1 62 = .ok (.bipush 41, 2) := by decide +kernel
theorem d_CN_init_64 : decode M_CN_init.2.1 64 = .ok (.newarray .int, 2) := by decide +kernel
theorem d_CN_init_66 : decode M_CN_init.2.1 66 = .ok (.putfield 37, 3) := by decide +kernel
theorem d_CN_init_69 : decode M_CN_init.2.1 69 = .ok (.aload_n 0, 1) := by decide +kernel
theorem d_CN_init_70 : decode M_CN_init.2.1 70 = .ok (.bipush 41, 2) := by decide +kernel
theorem d_CN_init_72 : decode M_CN_init.2.1 72 = .ok (.newarray .boolean, 2) := by decide +kernel
theorem d_CN_init_74 : decode M_CN_init.2.1 74 = .ok (.putfield 40, 3) := by decide +kernel
theorem d_CN_init_77 : decode M_CN_init.2.1 77 = .ok (.iconst 0, 1) := by decide +kernel
theorem d_CN_init_78 : decode M_CN_init.2.1 78 = .ok (.istore_n 1, 1) := by decide +kernel
theorem d_CN_init_79 : decode M_CN_init.2.1 79 = .ok (.iload_n 1, 1) := by decide +kernel
theorem d_CN_init_80 : decode M_CN_init.2.1 80 = .ok (.bipush 60, 2) := by decide +kernel
theorem d_CN_init_82 : decode M_CN_init.2.1 82 = .ok (.if_icmp .ge 22, 3) := by decide +kernel
theorem d_CN_init_85 : decode M_CN_init.2.1 85 = .ok (.aload_n 0, 1) := by decide +kernel
theorem d_CN_init_86 : decode M_CN_init.2.1 86 = .ok (.getfield 13, 3) := by decide +kernel
theorem d_CN_init_89 : decode M_CN_init.2.1 89 = .ok (.iload_n 1, 1) := by decide +kernel
theorem d_CN_init_90 : decode M_CN_init.2.1 90 = .ok (.new 11, 3) := by decide +kernel
theorem d_CN_init_93 : decode M_CN_init.2.1 93 = .ok (.dup, 1) := by decide +kernel
theorem d_CN_init_94 : decode M_CN_init.2.1 94 = .ok (.invokespecial 43, 3) := by decide +kernel
theorem d_CN_init_97 : decode M_CN_init.2.1 97 = .ok (.aastore, 1) := by decide +kernel
theorem d_CN_init_98 : decode M_CN_init.2.1 98 = .ok (.iinc 1 1, 3) := by decide +kernel
theorem d_CN_init_101 : decode M_CN_init.2.1 101 = .ok (.goto (-22), 3) := by decide +kernel
theorem d_CN_init_104 : decode M_CN_init.2.1 104 = .ok (.return_, 1) := by decide +kernel
theorem ki_CN_init : x_ki M_CN_init 0 := ⟨⟨by decide, Or.inl ⟨w_224, rfl⟩⟩, w_224, rfl, w_223, ⟨by decide, by decide⟩, by decide +kernel⟩
def M_QU_init : x_M := (⟨"QuestionReader$Question", "<init>", "()V"⟩, prog_10_method_1_code, 1, none, [])
theorem d_QU_init_0 : decode M_QU_init.2.1 0 = .ok (.aload_n 0, 1) := by decide +kernel
theorem d_QU_init_1 : decode M_QU_init.2.1 1 = .ok (.invokespecial 3, 3) := by decide +kernel
theorem d_QU_init_4 : decode M_QU_init.2.1 4 = .ok (.aload_n 0, 1) := by decide +kernel
theorem d_QU_init_5 : decode M_QU_init.2.1 5 = .ok (.bipush 24, 2) := by decide +kernel
theorem d_QU_init_7 : decode M_QU_init.2.1 7 = .ok (.newarray .int, 2) := by decide +kernel
theorem d_QU_init_9 : decode M_QU_init.2.1 9 = .ok (.putfield 11, 3) := by decide +kernel
theorem d_QU_init_12 : decode M_QU_init.2.1 12 = .ok (.aload_n 0, 1) := by decide +kernel
theorem d_QU_init_13 : decode M_QU_init.2.1 13 = .ok (.bipush 24, 2) := by decide +kernel
theorem d_QU_init_15 : decode M_QU_init.2.1 15 = .ok (.newarray .int, 2) := by decide +kernel
theorem d_QU_init_17 : decode M_QU_init.2.1 17 = .ok (.putfield 15, 3) := by decide +kernel
theorem d_QU_init_20 : decode M_QU_init.2.1 20 = .ok (.aload_n 0, 1) := by decide +kernel
theorem d_QU_init_21 : decode M_QU_init.2.1 21 = .ok (.bipush 24, 2) := by decide +kernel
theorem d_QU_init_23 : decode M_QU_init.2.1 23 = .ok (.newarray .int, 2) := by decide +kernel
theorem d_QU_init_25 : decode M_QU_init.2.1 25 = .ok (.putfield 18, 3) := by decide +kernel
theorem d_QU_init_28 : decode M_QU_init.2.1 28 = .ok (.aload_n 0, 1) := by decide +kernel
theorem d_QU_init_29 : decode M_QU_init.2.1 29 = .ok (.bipush 8, 2) := by decide +kernel
theorem d_QU_init_31 : decode M_QU_init.2.1 31 = .ok (.newarray .int, 2) := by decide +kernel
theorem d_QU_init_33 : decode M_QU_init.2.1 33 = .ok (.putfield 21, 3) := by decide +kernel
theorem d_QU_init_36 : decode M_QU_init.2.1 36 = .ok (.aload_n 0, 1) := by decide +kernel
theorem d_QU_init_37 : decode M_QU_init.2.1 37 = .ok (.bipush 32, 2) := by decide +kernel
theorem d_QU_init_39 : decode M_QU_init.2.1 39 = .ok (.newarray .int, 2) := by decide +kernel
theorem d_QU_init_41 : decode M_QU_init.2.1 41 = .ok (.putfield 24, 3) := by decide +kernel
theorem d_QU_init_44 : decode M_QU_init.2.1 44 = .ok (.aload_n 0, 1) := by decide +kernel
theorem d_QU_init_45 : decode M_QU_init.2.1 45 = .ok (.new 27, 3) := by decide +kernel
theorem d_QU_init_48 : decode M_QU_init.2.1 48 = .ok (.dup, 1) := by decide +kernel
theorem d_QU_init_49 : decode M_QU_init.2.1 49 = .ok (.invokespecial 29, 3) := by decide +kernel
theorem d_QU_init_52 : decode M_QU_init.2.1 52 = .ok (.putfield 30, 3) := by decide +kernel
theorem d_QU_init_55 : decode M_QU_init.2.1 55 = .ok (.return_, 1) := by decide +kernel
theorem ki_QU_init : x_ki M_QU_init 0 := ⟨⟨by decide, Or.inl ⟨w_218, rfl⟩⟩, w_218, rfl, w_217, ⟨by decide, by decide⟩, by decide +kernel⟩
def M_QG_init : x_M := (⟨"QuestionReader$QuestionGrammar", "<init>", "(LQuestionReader$Lexer;LQuestionReader$Catalog;)V"⟩, prog_11_method_1_code, 3, none, [])
theorem d_QG_init_0 : decode M_QG_init.2.1 0 = .ok (.aload_n 0, 1) := by decide +kernel
theorem d_QG_init_1 : decode M_QG_init.2.1 1 = .ok (.invokespecial 3, 3) := by decide +kernel
theorem d_QG_init_4 : decode M_QG_init.2.1 4 = .ok (.aload_n 0, 1) := by decide +kernel
theorem d_QG_init_5 : decode M_QG_init.2.1 5 = .ok (.new 9, 3) := by decide +kernel
theorem d_QG_init_8 : decode M_QG_init.2.1 8 = .ok (.dup, 1) := by decide +kernel
theorem d_QG_init_9 : decode M_QG_init.2.1 9 = .ok (.invokespecial 11, 3) := by decide +kernel
theorem d_QG_init_12 : decode M_QG_init.2.1 12 = .ok (.putfield 12, 3) := by decide +kernel
theorem d_QG_init_15 : decode M_QG_init.2.1 15 = .ok (.aload_n 0, 1) := by decide +kernel
theorem d_QG_init_16 : decode M_QG_init.2.1 16 = .ok (.new 9, 3) := by decide +kernel
theorem d_QG_init_19 : decode M_QG_init.2.1 19 = .ok (.dup, 1) := by decide +kernel
theorem d_QG_init_20 : decode M_QG_init.2.1 20 = .ok (.invokespecial 11, 3) := by decide +kernel
theorem d_QG_init_23 : decode M_QG_init.2.1 23 = .ok (.putfield 18, 3) := by decide +kernel
theorem d_QG_init_26 : decode M_QG_init.2.1 26 = .ok (.aload_n 0, 1) := by decide +kernel
theorem d_QG_init_27 : decode M_QG_init.2.1 27 = .ok (.aload_n 1, 1) := by decide +kernel
theorem d_QG_init_28 : decode M_QG_init.2.1 28 = .ok (.putfield 21, 3) := by decide +kernel
theorem d_QG_init_31 : decode M_QG_init.2.1 31 = .ok (.aload_n 0, 1) := by decide +kernel
theorem d_QG_init_32 : decode M_QG_init.2.1 32 = .ok (.aload_n 2, 1) := by decide +kernel
theorem d_QG_init_33 : decode M_QG_init.2.1 33 = .ok (.putfield 25, 3) := by decide +kernel
theorem d_QG_init_36 : decode M_QG_init.2.1 36 = .ok (.aload_n 0, 1) := by decide +kernel
theorem d_QG_init_37 : decode M_QG_init.2.1 37 = .ok (.aload_n 2, 1) := by decide +kernel
theorem d_QG_init_38 : decode M_QG_init.2.1 38 = .ok (.getfield 29, 3) := by decide +kernel
theorem d_QG_init_41 : decode M_QG_init.2.1 41 = .ok (.putfield 35, 3) := by decide +kernel
theorem d_QG_init_44 : decode M_QG_init.2.1 44 = .ok (.return_, 1) := by decide +kernel
theorem ki_QG_init : x_ki M_QG_init 2 := ⟨⟨by decide, Or.inl ⟨w_212, rfl⟩⟩, w_212, rfl, w_211, ⟨by decide, by decide⟩, by decide +kernel⟩
def M_QR_init : x_M := (⟨"QuestionReader", "<init>", "()V"⟩, prog_1_method_1_code, 1, none, [])
theorem d_QR_init_0 : decode M_QR_init.2.1 0 = .ok (.aload_n 0, 1) := by decide +kernel
theorem d_QR_init_1 : decode M_QR_init.2.1 1 = .ok (.invokespecial 1, 3) := by decide +kernel
theorem d_QR_init_4 : decode M_QR_init.2.1 4 = .ok (.aload_n 0, 1) := by decide +kernel
theorem d_QR_init_5 : decode M_QR_init.2.1 5 = .ok (.new 7, 3) := by decide +kernel
theorem d_QR_init_8 : decode M_QR_init.2.1 8 = .ok (.dup, 1) := by decide +kernel
theorem d_QR_init_9 : decode M_QR_init.2.1 9 = .ok (.invokespecial 9, 3) := by decide +kernel
theorem d_QR_init_12 : decode M_QR_init.2.1 12 = .ok (.putfield 10, 3) := by decide +kernel
theorem d_QR_init_15 : decode M_QR_init.2.1 15 = .ok (.aload_n 0, 1) := by decide +kernel
theorem d_QR_init_16 : decode M_QR_init.2.1 16 = .ok (.new 16, 3) := by decide +kernel
theorem d_QR_init_19 : decode M_QR_init.2.1 19 = .ok (.dup, 1) := by decide +kernel
theorem d_QR_init_20 : decode M_QR_init.2.1 20 = .ok (.aload_n 0, 1) := by decide +kernel
theorem d_QR_init_21 : decode M_QR_init.2.1 21 = .ok (.getfield 10, 3) := by decide +kernel
theorem d_QR_init_24 : decode M_QR_init.2.1 24 = .ok (.invokespecial 18, 3) := by decide +kernel
theorem d_QR_init_27 : decode M_QR_init.2.1 27 = .ok (.putfield 21, 3) := by decide +kernel
theorem d_QR_init_30 : decode M_QR_init.2.1 30 = .ok (.aload_n 0, 1) := by decide +kernel
theorem d_QR_init_31 : decode M_QR_init.2.1 31 = .ok (.new 25, 3) := by decide +kernel
theorem d_QR_init_34 : decode M_QR_init.2.1 34 = .ok (.dup, 1) := by decide +kernel
theorem d_QR_init_35 : decode M_QR_init.2.1 35 = .ok (.invokespecial 27, 3) := by decide +kernel
theorem d_QR_init_38 : decode M_QR_init.2.1 38 = .ok (.putfield 28, 3) := by decide +kernel
theorem d_QR_init_41 : decode M_QR_init.2.1 41 = .ok (.aload_n 0, 1) := by decide +kernel
theorem d_QR_init_42 : decode M_QR_init.2.1 42 = .ok (.new 32, 3) := by decide +kernel
theorem d_QR_init_45 : decode M_QR_init.2.1 45 = .ok (.dup, 1) := by decide +kernel
theorem d_QR_init_46 : decode M_QR_init.2.1 46 = .ok (.aload_n 0, 1) := by decide +kernel
theorem d_QR_init_47 : decode M_QR_init.2.1 47 = .ok (.getfield 21, 3) := by decide +kernel
theorem d_QR_init_50 : decode M_QR_init.2.1 50 = .ok (.aload_n 0, 1) := by decide +kernel
theorem d_QR_init_51 : decode M_QR_init.2.1 51 = .ok (.getfield 28, 3) := by decide +kernel
theorem d_QR_init_54 : decode M_QR_init.2.1 54 = .ok (.invokespecial 34, 3) := by decide +kernel
theorem d_QR_init_57 : decode M_QR_init.2.1 57 = .ok (.putfield 37, 3) := by decide +kernel
theorem d_QR_init_60 : decode M_QR_init.2.1 60 = .ok (.aload_n 0, 1) := by decide +kernel
theorem d_QR_init_61 : decode M_QR_init.2.1 61 = .ok (.new 41, 3) := by decide +kernel
theorem d_QR_init_64 : decode M_QR_init.2.1 64 = .ok (.dup, 1) := by decide +kernel
theorem d_QR_init_65 : decode M_QR_init.2.1 65 = .ok (.aload_n 0, 1) := by decide +kernel
theorem d_QR_init_66 : decode M_QR_init.2.1 66 = .ok (.getfield 21, 3) := by decide +kernel
theorem d_QR_init_69 : decode M_QR_init.2.1 69 = .ok (.aload_n 0, 1) := by decide +kernel
theorem d_QR_init_70 : decode M_QR_init.2.1 70 = .ok (.getfield 28, 3) := by decide +kernel
theorem d_QR_init_73 : decode M_QR_init.2.1 73 = .ok (.invokespecial 43, 3) := by decide +kernel
theorem d_QR_init_76 : decode M_QR_init.2.1 76 = .ok (.putfield 44, 3) := by decide +kernel
theorem d_QR_init_79 : decode M_QR_init.2.1 79 = .ok (.return_, 1) := by decide +kernel
theorem ki_QR_init : x_ki M_QR_init 0 := ⟨⟨by decide, Or.inl ⟨w_30, rfl⟩⟩, w_30, rfl, w_29, ⟨by decide, by decide⟩, by decide +kernel⟩
def M_MQ_init : x_M := (⟨"QuestionReaderModel$Question", "<init>", "()V"⟩, prog_15_method_1_code, 1, none, [])
theorem d_MQ_init_0 : decode M_MQ_init.2.1 0 = .ok (.aload_n 0, 1) := by decide +kernel
theorem d_MQ_init_1 : decode M_MQ_init.2.1 1 = .ok (.invokespecial 1, 3) := by decide +kernel
theorem d_MQ_init_4 : decode M_MQ_init.2.1 4 = .ok (.aload_n 0, 1) := by decide +kernel
theorem d_MQ_init_5 : decode M_MQ_init.2.1 5 = .ok (.bipush 24, 2) := by decide +kernel
theorem d_MQ_init_7 : decode M_MQ_init.2.1 7 = .ok (.newarray .int, 2) := by decide +kernel
theorem d_MQ_init_9 : decode M_MQ_init.2.1 9 = .ok (.putfield 7, 3) := by decide +kernel
theorem d_MQ_init_12 : decode M_MQ_init.2.1 12 = .ok (.aload_n 0, 1) := by decide +kernel
theorem d_MQ_init_13 : decode M_MQ_init.2.1 13 = .ok (.bipush 24, 2) := by decide +kernel
theorem d_MQ_init_15 : decode M_MQ_init.2.1 15 = .ok (.newarray .int, 2) := by decide +kernel
theorem d_MQ_init_17 : decode M_MQ_init.2.1 17 = .ok (.putfield 13, 3) := by decide +kernel
theorem d_MQ_init_20 : decode M_MQ_init.2.1 20 = .ok (.aload_n 0, 1) := by decide +kernel
theorem d_MQ_init_21 : decode M_MQ_init.2.1 21 = .ok (.bipush 24, 2) := by decide +kernel
theorem d_MQ_init_23 : decode M_MQ_init.2.1 23 = .ok (.newarray .int, 2) := by decide +kernel
theorem d_MQ_init_25 : decode M_MQ_init.2.1 25 = .ok (.putfield 16, 3) := by decide +kernel
theorem d_MQ_init_28 : decode M_MQ_init.2.1 28 = .ok (.aload_n 0, 1) := by decide +kernel
theorem d_MQ_init_29 : decode M_MQ_init.2.1 29 = .ok (.bipush 8, 2) := by decide +kernel
theorem d_MQ_init_31 : decode M_MQ_init.2.1 31 = .ok (.newarray .int, 2) := by decide +kernel
theorem d_MQ_init_33 : decode M_MQ_init.2.1 33 = .ok (.putfield 19, 3) := by decide +kernel
theorem d_MQ_init_36 : decode M_MQ_init.2.1 36 = .ok (.aload_n 0, 1) := by decide +kernel
theorem d_MQ_init_37 : decode M_MQ_init.2.1 37 = .ok (.bipush 8, 2) := by decide +kernel
theorem d_MQ_init_39 : decode M_MQ_init.2.1 39 = .ok (.newarray .int, 2) := by decide +kernel
theorem d_MQ_init_41 : decode M_MQ_init.2.1 41 = .ok (.putfield 22, 3) := by decide +kernel
theorem d_MQ_init_44 : decode M_MQ_init.2.1 44 = .ok (.aload_n 0, 1) := by decide +kernel
theorem d_MQ_init_45 : decode M_MQ_init.2.1 45 = .ok (.bipush 8, 2) := by decide +kernel
theorem d_MQ_init_47 : decode M_MQ_init.2.1 47 = .ok (.newarray .int, 2) := by decide +kernel
theorem d_MQ_init_49 : decode M_MQ_init.2.1 49 = .ok (.putfield 25, 3) := by decide +kernel
theorem d_MQ_init_52 : decode M_MQ_init.2.1 52 = .ok (.aload_n 0, 1) := by decide +kernel
theorem d_MQ_init_53 : decode M_MQ_init.2.1 53 = .ok (.bipush 32, 2) := by decide +kernel
theorem d_MQ_init_55 : decode M_MQ_init.2.1 55 = .ok (.newarray .int, 2) := by decide +kernel
theorem d_MQ_init_57 : decode M_MQ_init.2.1 57 = .ok (.putfield 28, 3) := by decide +kernel
theorem d_MQ_init_60 : decode M_MQ_init.2.1 60 = .ok (.aload_n 0, 1) := by decide +kernel
theorem d_MQ_init_61 : decode M_MQ_init.2.1 61 = .ok (.sipush 2600, 3) := by decide +kernel
theorem d_MQ_init_64 : decode M_MQ_init.2.1 64 = .ok (.newarray .int, 2) := by decide +kernel
theorem d_MQ_init_66 : decode M_MQ_init.2.1 66 = .ok (.putfield 31, 3) := by decide +kernel
theorem d_MQ_init_69 : decode M_MQ_init.2.1 69 = .ok (.aload_n 0, 1) := by decide +kernel
theorem d_MQ_init_70 : decode M_MQ_init.2.1 70 = .ok (.bipush 60, 2) := by decide +kernel
theorem d_MQ_init_72 : decode M_MQ_init.2.1 72 = .ok (.newarray .int, 2) := by decide +kernel
theorem d_MQ_init_74 : decode M_MQ_init.2.1 74 = .ok (.putfield 34, 3) := by decide +kernel
theorem d_MQ_init_77 : decode M_MQ_init.2.1 77 = .ok (.aload_n 0, 1) := by decide +kernel
theorem d_MQ_init_78 : decode M_MQ_init.2.1 78 = .ok (.bipush 60, 2) := by decide +kernel
theorem d_MQ_init_80 : decode M_MQ_init.2.1 80 = .ok (.newarray .int, 2) := by decide +kernel
theorem d_MQ_init_82 : decode M_MQ_init.2.1 82 = .ok (.putfield 37, 3) := by decide +kernel
theorem d_MQ_init_85 : decode M_MQ_init.2.1 85 = .ok (.aload_n 0, 1) := by decide +kernel
theorem d_MQ_init_86 : decode M_MQ_init.2.1 86 = .ok (.bipush 60, 2) := by decide +kernel
theorem d_MQ_init_88 : decode M_MQ_init.2.1 88 = .ok (.newarray .int, 2) := by decide +kernel
theorem d_MQ_init_90 : decode M_MQ_init.2.1 90 = .ok (.putfield 40, 3) := by decide +kernel
theorem d_MQ_init_93 : decode M_MQ_init.2.1 93 = .ok (.aload_n 0, 1) := by decide +kernel
theorem d_MQ_init_94 : decode M_MQ_init.2.1 94 = .ok (.bipush 60, 2) := by decide +kernel
theorem d_MQ_init_96 : decode M_MQ_init.2.1 96 = .ok (.newarray .int, 2) := by decide +kernel
theorem d_MQ_init_98 : decode M_MQ_init.2.1 98 = .ok (.putfield 43, 3) := by decide +kernel
theorem d_MQ_init_101 : decode M_MQ_init.2.1 101 = .ok (.aload_n 0, 1) := by decide +kernel
theorem d_MQ_init_102 : decode M_MQ_init.2.1 102 = .ok (.sipush 2400, 3) := by decide +kernel
theorem d_MQ_init_105 : decode M_MQ_init.2.1 105 = .ok (.newarray .int, 2) := by decide +kernel
theorem d_MQ_init_107 : decode M_MQ_init.2.1 107 = .ok (.putfield 46, 3) := by decide +kernel
theorem d_MQ_init_110 : decode M_MQ_init.2.1 110 = .ok (.return_, 1) := by decide +kernel
theorem ki_MQ_init : x_ki M_MQ_init 0 := ⟨⟨by decide, Or.inl ⟨w_1065, rfl⟩⟩, w_1065, rfl, w_1064, ⟨by decide, by decide⟩, by decide +kernel⟩
def M_MD_init : x_M := (⟨"QuestionReaderModel", "<init>", "()V"⟩, prog_14_method_1_code, 1, none, [])
theorem d_MD_init_0 : decode M_MD_init.2.1 0 = .ok (.aload_n 0, 1) := by decide +kernel
theorem d_MD_init_1 : decode M_MD_init.2.1 1 = .ok (.invokespecial 1, 3) := by decide +kernel
theorem d_MD_init_4 : decode M_MD_init.2.1 4 = .ok (.aload_n 0, 1) := by decide +kernel
theorem d_MD_init_5 : decode M_MD_init.2.1 5 = .ok (.ldc 7, 2) := by decide +kernel
theorem d_MD_init_7 : decode M_MD_init.2.1 7 = .ok (.putfield 9, 3) := by decide +kernel
theorem d_MD_init_10 : decode M_MD_init.2.1 10 = .ok (.aload_n 0, 1) := by decide +kernel
theorem d_MD_init_11 : decode M_MD_init.2.1 11 = .ok (.ldc 15, 2) := by decide +kernel
theorem d_MD_init_13 : decode M_MD_init.2.1 13 = .ok (.newarray .byte, 2) := by decide +kernel
theorem d_MD_init_15 : decode M_MD_init.2.1 15 = .ok (.putfield 16, 3) := by decide +kernel
theorem d_MD_init_18 : decode M_MD_init.2.1 18 = .ok (.aload_n 0, 1) := by decide +kernel
theorem d_MD_init_19 : decode M_MD_init.2.1 19 = .ok (.iconst (-1), 1) := by decide +kernel
theorem d_MD_init_20 : decode M_MD_init.2.1 20 = .ok (.putfield 20, 3) := by decide +kernel
theorem d_MD_init_23 : decode M_MD_init.2.1 23 = .ok (.aload_n 0, 1) := by decide +kernel
theorem d_MD_init_24 : decode M_MD_init.2.1 24 = .ok (.bipush 8, 2) := by decide +kernel
theorem d_MD_init_26 : decode M_MD_init.2.1 26 = .ok (.newarray .int, 2) := by decide +kernel
theorem d_MD_init_28 : decode M_MD_init.2.1 28 = .ok (.putfield 24, 3) := by decide +kernel
theorem d_MD_init_31 : decode M_MD_init.2.1 31 = .ok (.aload_n 0, 1) := by decide +kernel
theorem d_MD_init_32 : decode M_MD_init.2.1 32 = .ok (.bipush 8, 2) := by decide +kernel
theorem d_MD_init_34 : decode M_MD_init.2.1 34 = .ok (.newarray .int, 2) := by decide +kernel
theorem d_MD_init_36 : decode M_MD_init.2.1 36 = .ok (.putfield 28, 3) := by decide +kernel
theorem d_MD_init_39 : decode M_MD_init.2.1 39 = .ok (.aload_n 0, 1) := by decide +kernel
theorem d_MD_init_40 : decode M_MD_init.2.1 40 = .ok (.sipush 32000, 3) := by decide +kernel
theorem d_MD_init_43 : decode M_MD_init.2.1 43 = .ok (.newarray .int, 2) := by decide +kernel
theorem d_MD_init_45 : decode M_MD_init.2.1 45 = .ok (.putfield 31, 3) := by decide +kernel
theorem d_MD_init_48 : decode M_MD_init.2.1 48 = .ok (.aload_n 0, 1) := by decide +kernel
theorem d_MD_init_49 : decode M_MD_init.2.1 49 = .ok (.bipush 8, 2) := by decide +kernel
theorem d_MD_init_51 : decode M_MD_init.2.1 51 = .ok (.newarray .int, 2) := by decide +kernel
theorem d_MD_init_53 : decode M_MD_init.2.1 53 = .ok (.putfield 34, 3) := by decide +kernel
theorem d_MD_init_56 : decode M_MD_init.2.1 56 = .ok (.aload_n 0, 1) := by decide +kernel
theorem d_MD_init_57 : decode M_MD_init.2.1 57 = .ok (.sipush 1920, 3) := by decide +kernel
theorem d_MD_init_60 : decode M_MD_init.2.1 60 = .ok (.newarray .byte, 2) := by decide +kernel
theorem d_MD_init_62 : decode M_MD_init.2.1 62 = .ok (.putfield 37, 3) := by decide +kernel
theorem d_MD_init_65 : decode M_MD_init.2.1 65 = .ok (.aload_n 0, 1) := by decide +kernel
theorem d_MD_init_66 : decode M_MD_init.2.1 66 = .ok (.bipush 48, 2) := by decide +kernel
theorem d_MD_init_68 : decode M_MD_init.2.1 68 = .ok (.newarray .int, 2) := by decide +kernel
theorem d_MD_init_70 : decode M_MD_init.2.1 70 = .ok (.putfield 40, 3) := by decide +kernel
theorem d_MD_init_73 : decode M_MD_init.2.1 73 = .ok (.aload_n 0, 1) := by decide +kernel
theorem d_MD_init_74 : decode M_MD_init.2.1 74 = .ok (.new 43, 3) := by decide +kernel
theorem d_MD_init_77 : decode M_MD_init.2.1 77 = .ok (.dup, 1) := by decide +kernel
theorem d_MD_init_78 : decode M_MD_init.2.1 78 = .ok (.invokespecial 45, 3) := by decide +kernel
theorem d_MD_init_81 : decode M_MD_init.2.1 81 = .ok (.putfield 46, 3) := by decide +kernel
theorem d_MD_init_84 : decode M_MD_init.2.1 84 = .ok (.aload_n 0, 1) := by decide +kernel
theorem d_MD_init_85 : decode M_MD_init.2.1 85 = .ok (.new 43, 3) := by decide +kernel
theorem d_MD_init_88 : decode M_MD_init.2.1 88 = .ok (.dup, 1) := by decide +kernel
theorem d_MD_init_89 : decode M_MD_init.2.1 89 = .ok (.invokespecial 45, 3) := by decide +kernel
theorem d_MD_init_92 : decode M_MD_init.2.1 92 = .ok (.putfield 50, 3) := by decide +kernel
theorem d_MD_init_95 : decode M_MD_init.2.1 95 = .ok (.aload_n 0, 1) := by decide +kernel
theorem d_MD_init_96 : decode M_MD_init.2.1 96 = .ok (.bipush 64, 2) := by decide +kernel
theorem d_MD_init_98 : decode M_MD_init.2.1 98 = .ok (.newarray .boolean, 2) := by decide +kernel
theorem d_MD_init_100 : decode M_MD_init.2.1 100 = .ok (.putfield 53, 3) := by decide +kernel
theorem d_MD_init_103 : decode M_MD_init.2.1 103 = .ok (.return_, 1) := by decide +kernel
theorem ki_MD_init : x_ki M_MD_init 0 := ⟨⟨by decide, Or.inl ⟨w_1057, rfl⟩⟩, w_1057, rfl, w_1056, ⟨by decide, by decide⟩, by decide +kernel⟩
theorem tf_CP {p : Nat} (hp : x_CP p) : x_t p = .inr (10, [.int 0, .int 0, .int 0, .int 0, .int 0, .ref (p + 1)]) := by
  have hb_ := x_CP_b hp
  refine (x_hp_o (sh_CP hp)).trans ?_
  show Sum.inr (10, [Value.int (x_m0.1 p 0), .int (x_m0.1 p 1), .int (x_m0.1 p 2), .int (x_m0.1 p 3), .int (x_m0.1 p 4), .ref (p + 1)]) = _
  rw [x_S0z (by omega) (by omega)]
theorem c_CP_init {G : x_G} {h : x_h} {p e : Nat} (hp : x_CP p) (he : e = p + 2) (h0 : h p = .inr (10, [.int 0, .int 0, .int 0, .int 0, .int 0, .null])) : x_R G M_CP_init (x_rc 1 1 40) true [.ref p] (p + 1) h (x_ctr p (e) h) := by
  subst he
  have hbd := x_CP_b hp
  show x_W G M_CP_init (x_rc 1 1 40) (x_Q G (x_rc 1 1 40) true (x_ctr p (p + 2) h)) true (p + 1) h 0 0 [(0, .ref p)] [] 0
  refine x_cong (h' := (x_o p (.inr (10, [.int 0, .int 0, .int 0, .int 0, .int 0, .null])) p (x_t p) h)) (fun k hk => x_o_0 h0 (by omega) hk) ?_
  refine x_aload_n d_CP_init_0 rfl rfl ?_
  refine x_objI d_CP_init_1 w_232 (Nat.le_of_ble_eq_true rfl) (Nat.le_of_ble_eq_true rfl) (Nat.le_of_ble_eq_true rfl) ?_
  refine x_aload_n d_CP_init_4 rfl rfl ?_
  refine x_bipush (v := 40) d_CP_init_5 (by decide) ?_
  refine x_newA (t := 0) (N := 40) (a0 := (40, .inl (fun _ => 0))) d_CP_init_7 rfl w_120 (by decide +kernel) (by decide +kernel) (by decide +kernel) (fun _ => rfl) (by unfold x_N; omega) (Nat.le_of_ble_eq_true rfl) (Nat.le_of_ble_eq_true rfl) ?_
  refine x_cong (h' := (x_o p (.inr (10, [.int 0, .int 0, .int 0, .int 0, .int 0, .null])) p (x_t p) h)) (fun k hk => congrFun (x_o_un (by omega) (by omega) (x_tz (sa_CP_list hp) (by have hb_ := x_CP_b hp; omega))) k) ?_
  refine x_putF d_CP_init_9 (f_CP_9 rfl) tb_CP rfl rfl rfl (by omega) x_o_p (Nat.le_of_ble_eq_true rfl) rfl rfl ?_
  refine x_cong (h' := (x_o p (.inr (10, [.int 0, .int 0, .int 0, .int 0, .int 0, .ref (p + 1)])) p (x_t p) h)) (fun k hk => congrFun x_o_up k) ?_
  exact x_vret d_CP_init_12 rfl (Nat.le_of_ble_eq_true rfl) (Nat.le_of_ble_eq_true rfl) ⟨rfl, rfl, fun k hk => x_o_end (tf_CP hp).symm rfl (Nat.le_refl _)⟩
theorem tf_NM : x_t 5 = .inr (4, [.ref 6, .ref 7]) := rfl
theorem c_NM_init {G : x_G} {h : x_h} (h0 : h 5 = .inr (4, [.null, .null])) : x_R G M_NM_init (x_rc 1 2 1968) true [.ref 5] (6) h (x_ctr 5 (8) h) := by
  show x_W G M_NM_init (x_rc 1 2 1968) (x_Q G (x_rc 1 2 1968) true (x_ctr 5 (8) h)) true (6) h 0 0 [(0, .ref 5)] [] 0
  refine x_cong (h' := (x_o 5 (.inr (4, [.null, .null])) 5 (x_t 5) h)) (fun k hk => x_o_0 h0 (by omega) hk) ?_
  refine x_aload_n d_NM_init_0 rfl rfl ?_
  refine x_objI d_NM_init_1 w_112 (Nat.le_of_ble_eq_true rfl) (Nat.le_of_ble_eq_true rfl) (Nat.le_of_ble_eq_true rfl) ?_
  refine x_aload_n d_NM_init_4 rfl rfl ?_
  refine x_sipush (v := 1920) d_NM_init_5 (by decide) ?_
  refine x_newA (t := 1) (N := 1920) (a0 := (1920, .inl (fun _ => 0))) d_NM_init_8 rfl w_52 (by decide +kernel) (by decide +kernel) (by decide +kernel) (fun _ => rfl) (by unfold x_N; omega) (Nat.le_of_ble_eq_true rfl) (Nat.le_of_ble_eq_true rfl) ?_
  refine x_cong (h' := (x_o 5 (.inr (4, [.null, .null])) 5 (x_t 5) h)) (fun k hk => congrFun (x_o_un (by omega) (by omega) (x_tz sa_NM_letters (by omega))) k) ?_
  refine x_putF d_NM_init_10 (f_NM_11 rfl) tb_NM rfl rfl rfl (by omega) x_o_p (Nat.le_of_ble_eq_true rfl) rfl rfl ?_
  refine x_cong (h' := (x_o 5 (.inr (4, [.ref 6, .null])) 5 (x_t 5) h)) (fun k hk => congrFun x_o_up k) ?_
  refine x_aload_n d_NM_init_13 rfl rfl ?_
  refine x_bipush (v := 48) d_NM_init_14 (by decide) ?_
  refine x_newA (t := 0) (N := 48) (a0 := (48, .inl (fun _ => 0))) d_NM_init_16 rfl w_120 (by decide +kernel) (by decide +kernel) (by decide +kernel) (fun _ => rfl) (by unfold x_N; omega) (Nat.le_of_ble_eq_true rfl) (Nat.le_of_ble_eq_true rfl) ?_
  refine x_cong (h' := (x_o 5 (.inr (4, [.ref 6, .null])) 5 (x_t 5) h)) (fun k hk => congrFun (x_o_un (by omega) (by omega) (x_tz sa_NM_lengths (by omega))) k) ?_
  refine x_putF d_NM_init_18 (f_NM_15 rfl) tb_NM rfl rfl rfl (by omega) x_o_p (Nat.le_of_ble_eq_true rfl) rfl rfl ?_
  refine x_cong (h' := (x_o 5 (.inr (4, [.ref 6, .ref 7])) 5 (x_t 5) h)) (fun k hk => congrFun x_o_up k) ?_
  exact x_vret d_NM_init_21 rfl (Nat.le_of_ble_eq_true rfl) (Nat.le_of_ble_eq_true rfl) ⟨rfl, rfl, fun k hk => x_o_end (tf_NM).symm rfl (Nat.le_refl _)⟩
theorem tf_TX : x_t 1 = .inr (1, [.ref 2, .int 0]) := rfl
theorem c_TX_init {G : x_G} {h : x_h} (h0 : h 1 = .inr (1, [.null, .int 0])) : x_R G M_TX_init (x_rc 1 1 65536) true [.ref 1] (2) h (x_ctr 1 (3) h) := by
  show x_W G M_TX_init (x_rc 1 1 65536) (x_Q G (x_rc 1 1 65536) true (x_ctr 1 (3) h)) true (2) h 0 0 [(0, .ref 1)] [] 0
  refine x_cong (h' := (x_o 1 (.inr (1, [.null, .int 0])) 1 (x_t 1) h)) (fun k hk => x_o_0 h0 (by omega) hk) ?_
  refine x_aload_n d_TX_init_0 rfl rfl ?_
  refine x_objI d_TX_init_1 w_39 (Nat.le_of_ble_eq_true rfl) (Nat.le_of_ble_eq_true rfl) (Nat.le_of_ble_eq_true rfl) ?_
  refine x_aload_n d_TX_init_4 rfl rfl ?_
  refine x_ldc (v := 65536) d_TX_init_5 w_40 ?_
  refine x_newA (t := 1) (N := 65536) (a0 := (65536, .inl (fun _ => 0))) d_TX_init_7 rfl w_52 (by decide +kernel) (by decide +kernel) (by decide +kernel) (fun _ => rfl) (by unfold x_N; omega) (Nat.le_of_ble_eq_true rfl) (Nat.le_of_ble_eq_true rfl) ?_
  refine x_cong (h' := (x_o 1 (.inr (1, [.null, .int 0])) 1 (x_t 1) h)) (fun k hk => congrFun (x_o_un (by omega) (by omega) (x_tz sa_TX_bytes (by omega))) k) ?_
  refine x_putF d_TX_init_9 (f_TX_10 rfl) tb_TX rfl rfl rfl (by omega) x_o_p (Nat.le_of_ble_eq_true rfl) rfl rfl ?_
  refine x_cong (h' := (x_o 1 (.inr (1, [.ref 2, .int 0])) 1 (x_t 1) h)) (fun k hk => congrFun x_o_up k) ?_
  exact x_vret d_TX_init_12 rfl (Nat.le_of_ble_eq_true rfl) (Nat.le_of_ble_eq_true rfl) ⟨rfl, rfl, fun k hk => x_o_end (tf_TX).symm rfl (Nat.le_refl _)⟩
theorem tf_LX : x_t 3 = .inr (2, [.ref 1, .ref (x_N + 0), .int 0, .int 0, .int 0, .int 0, .int (-1), .int 0, .int 0]) := rfl
theorem c_LX_init {G : x_G} {h : x_h} (h0 : h 3 = .inr (2, [.null, .null, .int 0, .int 0, .int 0, .int 0, .int 0, .int 0, .int 0])) : x_R G M_LX_init (x_rc 1 0 0) true [.ref 3, .ref 1] (4) h (x_ctr 3 (4) h) := by
  show x_W G M_LX_init (x_rc 1 0 0) (x_Q G (x_rc 1 0 0) true (x_ctr 3 (4) h)) true (4) h 0 0 [(0, .ref 3), (1, .ref 1)] [] 0
  refine x_cong (h' := (x_o 3 (.inr (2, [.null, .null, .int 0, .int 0, .int 0, .int 0, .int 0, .int 0, .int 0])) 3 (x_t 3) h)) (fun k hk => x_o_0 h0 (by omega) hk) ?_
  refine x_aload_n d_LX_init_0 rfl rfl ?_
  refine x_objI d_LX_init_1 w_58 (Nat.le_of_ble_eq_true rfl) (Nat.le_of_ble_eq_true rfl) (Nat.le_of_ble_eq_true rfl) ?_
  refine x_aload_n d_LX_init_4 rfl rfl ?_
  refine x_gets (i := 0) d_LX_init_5 (by decide) w_59 ?_
  refine x_putf d_LX_init_8 (f_LX_15 rfl) tb_LX rfl (by omega) x_o_p (Nat.le_of_ble_eq_true rfl) rfl rfl ?_
  refine x_cong (h' := (x_o 3 (.inr (2, [.null, .ref (x_N + 0), .int 0, .int 0, .int 0, .int 0, .int 0, .int 0, .int 0])) 3 (x_t 3) h)) (fun k hk => congrFun x_o_up k) ?_
  refine x_aload_n d_LX_init_11 rfl rfl ?_
  refine x_iconst (v := (-1)) d_LX_init_12 (by decide) ?_
  refine x_putf d_LX_init_13 (f_LX_20 rfl) tb_LX rfl (by omega) x_o_p (Nat.le_of_ble_eq_true rfl) rfl rfl ?_
  refine x_cong (h' := (x_o 3 (.inr (2, [.null, .ref (x_N + 0), .int 0, .int 0, .int 0, .int 0, .int (-1), .int 0, .int 0])) 3 (x_t 3) h)) (fun k hk => congrFun x_o_up k) ?_
  refine x_aload_n d_LX_init_16 rfl rfl ?_
  refine x_aload_n d_LX_init_17 rfl rfl ?_
  refine x_putF d_LX_init_18 (f_LX_24 rfl) tb_LX rfl rfl rfl (by omega) x_o_p (Nat.le_of_ble_eq_true rfl) rfl rfl ?_
  refine x_cong (h' := (x_o 3 (.inr (2, [.ref 1, .ref (x_N + 0), .int 0, .int 0, .int 0, .int 0, .int (-1), .int 0, .int 0])) 3 (x_t 3) h)) (fun k hk => congrFun x_o_up k) ?_
  exact x_vret d_LX_init_21 rfl (Nat.le_of_ble_eq_true rfl) (Nat.le_of_ble_eq_true rfl) ⟨rfl, rfl, fun k hk => x_o_end (tf_LX).symm rfl (Nat.le_refl _)⟩
theorem tr_DM {p : Nat} (hp : x_DM p) : x_t (p + 6) = .inl (0, 1000, .inl (x_rw 1000)) := by
  have hb_ := x_DM_b hp
  refine (x_hp_i (sa_DM_rows hp)).trans ?_
  rw [show x_m0.2.1 (p + 6) = x_rw 1000 from funext fun j => if_pos (by omega)]
theorem tf_DM {p : Nat} (hp : x_DM p) : x_t p = .inr (5, [.int 0, .int 0, .int 0, .ref (p + 1), .ref (p + 6), .ref (p + 7), .ref (p + 12)]) := by
  obtain ⟨d, hd, rfl⟩ := hp
  exact match d, hd with | 0, _ => rfl | 1, _ => rfl | 2, _ => rfl | 3, _ => rfl | 4, _ => rfl | 5, _ => rfl | 6, _ => rfl | 7, _ => rfl | _ + 8, hz => absurd hz (by omega)
theorem l_DM_init {G : x_G} {h : x_h} {p : Nat} (hp : x_DM p) : ∀ (k i : Nat), i + k = 1000 → x_W G M_DM_init (x_rc 1 12 9012) (x_Q G (x_rc 1 12 9012) true (x_ctr p (p + 13) h)) true (p + 13) (x_o p (.inr (5, [.int 0, .int 0, .int 0, .ref (p + 1), .ref (p + 6), .ref (p + 7), .ref (p + 12)])) (p + 6) (.inl (0, 1000, .inl (x_rw i))) h) 12 9012 [(0, .ref p), (1, .int (Int32.ofNat i))] [] 46 := by
  have hbd := x_DM_b hp
  intro k
  induction k with
  | zero =>
    intro i hi
    have hi2 : i = 1000 := hi
    subst hi2
    refine x_iload_n d_DM_init_46 rfl rfl ?_
    refine x_sipush (v := 1000) d_DM_init_47 (by decide) ?_
    refine x_icmp_ge (tgt := 66) d_DM_init_50 (by decide) (fun c_ => ?_) (fun c_ => absurd (show (1000 : Int32) ≤ Int32.ofNat 1000 from (x_ile (a := 1000) (b := 1000) (by decide) (by decide)).mpr (Nat.le_refl _)) c_)
    exact x_vret d_DM_init_66 rfl (Nat.le_of_ble_eq_true rfl) (Nat.le_of_ble_eq_true rfl) ⟨rfl, rfl, fun k hk => x_o_end (tf_DM hp).symm (tr_DM hp).symm (by omega)⟩
  | succ k ih =>
    intro i hi0
    have hi : i < 1000 := by omega
    refine x_iload_n d_DM_init_46 rfl rfl ?_
    refine x_sipush (v := 1000) d_DM_init_47 (by decide) ?_
    refine x_icmp_ge (tgt := 66) d_DM_init_50 (by decide) (fun c_ => absurd ((x_ile (a := 1000) (b := i) (by decide) (by omega)).mp (show Int32.ofNat 1000 ≤ Int32.ofNat i from c_)) (by omega)) (fun c_ => ?_)
    refine x_aload_n d_DM_init_53 rfl rfl ?_
    refine x_getf (v := .ref (p + 6)) d_DM_init_54 (f_DM_16 rfl) (by omega) x_o_p rfl ?_
    refine x_iload_n d_DM_init_57 rfl rfl ?_
    refine x_iload_n d_DM_init_58 rfl rfl ?_
    refine x_iast (t := 0) d_DM_init_59 rfl (by omega) (x_o_q (by omega)) (x_iin (by omega) hi) ?_
    refine x_cong (h' := (x_o p (.inr (5, [.int 0, .int 0, .int 0, .ref (p + 1), .ref (p + 6), .ref (p + 7), .ref (p + 12)])) (p + 6) (.inl (0, 1000, .inl (x_rw (i + 1)))) h)) (fun k hk => (by rw [x_icl (show i < 2 ^ 31 by omega), x_rw_next]; exact congrFun (x_o_uq (by omega)) k)) ?_
    refine x_iinc (v := Int32.ofNat (i + 1)) (lv2 := [(0, .ref p), (1, .int (Int32.ofNat (i + 1)))]) d_DM_init_60 rfl (x_inx i) (by decide) rfl ?_
    refine x_goto (tgt := 46) d_DM_init_63 (by decide) ?_
    exact ih (i + 1) (by omega)
theorem c_DM_init {G : x_G} {h : x_h} {p e : Nat} (hp : x_DM p) (he : e = p + 13) (h0 : h p = .inr (5, [.int 0, .int 0, .int 0, .null, .null, .null, .null])) : x_R G M_DM_init (x_rc 1 12 9012) true [.ref p] (p + 1) h (x_ctr p (e) h) := by
  subst he
  have hbd := x_DM_b hp
  show x_W G M_DM_init (x_rc 1 12 9012) (x_Q G (x_rc 1 12 9012) true (x_ctr p (p + 13) h)) true (p + 1) h 0 0 [(0, .ref p)] [] 0
  refine x_cong (h' := (x_o p (.inr (5, [.int 0, .int 0, .int 0, .null, .null, .null, .null])) (p + 6) (x_t (p + 6)) h)) (fun k hk => x_o_0 h0 (by omega) hk) ?_
  refine x_aload_n d_DM_init_0 rfl rfl ?_
  refine x_objI d_DM_init_1 w_127 (Nat.le_of_ble_eq_true rfl) (Nat.le_of_ble_eq_true rfl) (Nat.le_of_ble_eq_true rfl) ?_
  refine x_aload_n d_DM_init_4 rfl rfl ?_
  refine x_iconst (v := 4) d_DM_init_5 (by decide) ?_
  refine x_sipush (v := 1000) d_DM_init_6 (by decide) ?_
  refine x_mna d_DM_init_9 w_128 w_120 (by unfold x_N; omega) (Nat.le_of_ble_eq_true rfl) (Nat.le_of_ble_eq_true rfl) ?_
  refine x_cong (h' := (x_o p (.inr (5, [.int 0, .int 0, .int 0, .null, .null, .null, .null])) (p + 6) (x_t (p + 6)) h)) (fun k hk => x_o_h5 (by omega) (by omega) (x_hp_r (sa_DM_values hp)) (fun j j1 j2 => (congrArg x_t (show j = p + 2 + (j - (p + 2)) by omega)).trans (x_tz (sa_DM_vrow hp (j := j - (p + 2)) (by omega)) (by have hb_ := x_DM_b hp; omega)))) ?_
  refine x_putF d_DM_init_13 (f_DM_13 rfl) tb_DM rfl rfl rfl (by omega) x_o_p (Nat.le_of_ble_eq_true rfl) rfl rfl ?_
  refine x_cong (h' := (x_o p (.inr (5, [.int 0, .int 0, .int 0, .ref (p + 1), .null, .null, .null])) (p + 6) (x_t (p + 6)) h)) (fun k hk => congrFun x_o_up k) ?_
  refine x_aload_n d_DM_init_16 rfl rfl ?_
  refine x_sipush (v := 1000) d_DM_init_17 (by decide) ?_
  refine x_newA (t := 0) (N := 1000) (a0 := (1000, .inl (fun _ => 0))) d_DM_init_20 rfl w_120 (by decide +kernel) (by decide +kernel) (by decide +kernel) (fun _ => rfl) (by unfold x_N; omega) (Nat.le_of_ble_eq_true rfl) (Nat.le_of_ble_eq_true rfl) ?_
  refine x_cong (h' := (x_o p (.inr (5, [.int 0, .int 0, .int 0, .ref (p + 1), .null, .null, .null])) (p + 6) (.inl (0, 1000, .inl (x_rw 0))) h)) (fun k hk => (by rw [x_rw0]; exact congrFun (x_o_uq (by omega)) k)) ?_
  refine x_putF d_DM_init_22 (f_DM_16 rfl) tb_DM rfl rfl rfl (by omega) x_o_p (Nat.le_of_ble_eq_true rfl) rfl rfl ?_
  refine x_cong (h' := (x_o p (.inr (5, [.int 0, .int 0, .int 0, .ref (p + 1), .ref (p + 6), .null, .null])) (p + 6) (.inl (0, 1000, .inl (x_rw 0))) h)) (fun k hk => congrFun x_o_up k) ?_
  refine x_aload_n d_DM_init_25 rfl rfl ?_
  refine x_iconst (v := 4) d_DM_init_26 (by decide) ?_
  refine x_sipush (v := 1000) d_DM_init_27 (by decide) ?_
  refine x_mna d_DM_init_30 w_128 w_120 (by unfold x_N; omega) (Nat.le_of_ble_eq_true rfl) (Nat.le_of_ble_eq_true rfl) ?_
  refine x_cong (h' := (x_o p (.inr (5, [.int 0, .int 0, .int 0, .ref (p + 1), .ref (p + 6), .null, .null])) (p + 6) (.inl (0, 1000, .inl (x_rw 0))) h)) (fun k hk => x_o_h5 (by omega) (by omega) (x_hp_r (sa_DM_sorted hp)) (fun j j1 j2 => (congrArg x_t (show j = p + 8 + (j - (p + 8)) by omega)).trans (x_tz (sa_DM_srow hp (j := j - (p + 8)) (by omega)) (by have hb_ := x_DM_b hp; omega)))) ?_
  refine x_putF d_DM_init_34 (f_DM_20 rfl) tb_DM rfl rfl rfl (by omega) x_o_p (Nat.le_of_ble_eq_true rfl) rfl rfl ?_
  refine x_cong (h' := (x_o p (.inr (5, [.int 0, .int 0, .int 0, .ref (p + 1), .ref (p + 6), .ref (p + 7), .null])) (p + 6) (.inl (0, 1000, .inl (x_rw 0))) h)) (fun k hk => congrFun x_o_up k) ?_
  refine x_aload_n d_DM_init_37 rfl rfl ?_
  refine x_iconst (v := 4) d_DM_init_38 (by decide) ?_
  refine x_newA (t := 0) (N := 4) (a0 := (4, .inl (fun _ => 0))) d_DM_init_39 rfl w_120 (by decide +kernel) (by decide +kernel) (by decide +kernel) (fun _ => rfl) (by unfold x_N; omega) (Nat.le_of_ble_eq_true rfl) (Nat.le_of_ble_eq_true rfl) ?_
  refine x_cong (h' := (x_o p (.inr (5, [.int 0, .int 0, .int 0, .ref (p + 1), .ref (p + 6), .ref (p + 7), .null])) (p + 6) (.inl (0, 1000, .inl (x_rw 0))) h)) (fun k hk => congrFun (x_o_un (by omega) (by omega) (x_tz (sa_DM_sortedCounts hp) (by have hb_ := x_DM_b hp; omega))) k) ?_
  refine x_putF d_DM_init_41 (f_DM_23 rfl) tb_DM rfl rfl rfl (by omega) x_o_p (Nat.le_of_ble_eq_true rfl) rfl rfl ?_
  refine x_cong (h' := (x_o p (.inr (5, [.int 0, .int 0, .int 0, .ref (p + 1), .ref (p + 6), .ref (p + 7), .ref (p + 12)])) (p + 6) (.inl (0, 1000, .inl (x_rw 0))) h)) (fun k hk => congrFun x_o_up k) ?_
  refine x_iconst (v := 0) d_DM_init_44 (by decide) ?_
  refine x_istore_n (lv2 := [(0, .ref p), (1, .int 0)]) d_DM_init_45 rfl (by decide) rfl ?_
  exact l_DM_init hp 1000 0 rfl
theorem tf_CT : x_t 4 = .inr (3, [.ref 5, .ref 8, .int 0, .int 0, .int 0]) := rfl
theorem l_CT_init {G : x_G} {h : x_h} : ∀ (k i : Nat), i + k = 8 → x_W G M_CT_init (x_rc 2 108 74130) (x_Q G (x_rc 2 108 74130) true (x_ctr 4 (113) h)) true (9 + 13 * i) (x_o 4 (.inr (3, [.ref 5, .ref 8, .int 0, .int 0, .int 0])) 8 (.inl (4, 8, .inr (.inr (.inr (.inr (x_fi 9 13 i)))))) h) (4 + 13 * i) (1978 + 9019 * i) [(0, .ref 4), (1, .int (Int32.ofNat i))] [] 26 := by
  intro k
  induction k with
  | zero =>
    intro i hi
    have hi2 : i = 8 := hi
    subst hi2
    refine x_iload_n d_CT_init_26 rfl rfl ?_
    refine x_bipush (v := 8) d_CT_init_27 (by decide) ?_
    refine x_icmp_ge (tgt := 51) d_CT_init_29 (by decide) (fun c_ => ?_) (fun c_ => absurd (show (8 : Int32) ≤ Int32.ofNat 8 from (x_ile (a := 8) (b := 8) (by decide) (by decide)).mpr (Nat.le_refl _)) c_)
    exact x_vret d_CT_init_51 rfl (Nat.le_of_ble_eq_true rfl) (Nat.le_of_ble_eq_true rfl) ⟨rfl, rfl, fun k hk => x_o_end (tf_CT).symm (x_hp_r sa_CT_dimensions).symm (by omega)⟩
  | succ k ih =>
    intro i hi0
    have hi : i < 8 := by omega
    refine x_iload_n d_CT_init_26 rfl rfl ?_
    refine x_bipush (v := 8) d_CT_init_27 (by decide) ?_
    refine x_icmp_ge (tgt := 51) d_CT_init_29 (by decide) (fun c_ => absurd ((x_ile (a := 8) (b := i) (by decide) (by omega)).mp (show Int32.ofNat 8 ≤ Int32.ofNat i from c_)) (by omega)) (fun c_ => ?_)
    refine x_aload_n d_CT_init_32 rfl rfl ?_
    refine x_getf (v := .ref 8) d_CT_init_33 (f_CT_20 rfl) (by omega) x_o_p rfl ?_
    refine x_iload_n d_CT_init_36 rfl rfl ?_
    refine x_newO (ci := 5) (fs := [.int 0, .int 0, .int 0, .null, .null, .null, .null]) d_CT_init_37 rfl wu_DM tb_DM w_121 w_123 w_8 (fr_DM G) (by unfold x_N; omega) (by show _ ≤ 108; omega) (by show _ ≤ 74130; omega) ?_
    refine x_dup d_CT_init_40 rfl ?_
    refine x_iniI (M2 := M_DM_init) (As := []) (st := [.ref (9 + 13 * i), .int (Int32.ofNat i), .ref 8]) (e := 9 + 13 * (i + 1)) d_CT_init_41 (c_DM_init (x_DM_of hi) (by omega) (by rw [va_up_self])) ki_DM_init w_124 (by omega) (by omega) ⟨(Nat.le_of_ble_eq_true rfl), (Nat.le_of_ble_eq_true rfl)⟩ (by show _ + 12 ≤ 108; omega) (by show _ + 9012 ≤ 74130; omega) (Nat.le_of_ble_eq_true rfl) (Nat.le_of_ble_eq_true rfl) rfl ?_
    refine x_aast (t := 4) d_CT_init_44 rfl (by omega) (x_o_q (by omega)) (by omega) ((x_o_hi (by omega) (by omega)).trans (x_hp_o (sh_DM (x_DM_of hi)))) rfl (x_iin (by omega) hi) ?_
    refine x_cong (h' := (x_o 4 (.inr (3, [.ref 5, .ref 8, .int 0, .int 0, .int 0])) 8 (.inl (4, 8, .inr (.inr (.inr (.inr (x_fi 9 13 (i + 1))))))) h)) (fun k hk => (by rw [x_icl (show i < 2 ^ 31 by omega), x_fi_next rfl]; exact congrFun (x_o_uq (by omega)) k)) ?_
    refine x_wide (c1 := 4 + 13 * (i + 1)) (s1 := 1978 + 9019 * (i + 1)) (by show _ + 1 + 12 ≤ _; omega) (by show _ + 7 + 9012 ≤ _; omega) ?_
    refine x_iinc (v := Int32.ofNat (i + 1)) (lv2 := [(0, .ref 4), (1, .int (Int32.ofNat (i + 1)))]) d_CT_init_45 rfl (x_inx i) (by decide) rfl ?_
    refine x_goto (tgt := 26) d_CT_init_48 (by decide) ?_
    exact ih (i + 1) (by omega)
theorem c_CT_init {G : x_G} {h : x_h} (h0 : h 4 = .inr (3, [.null, .null, .int 0, .int 0, .int 0])) : x_R G M_CT_init (x_rc 2 108 74130) true [.ref 4] (5) h (x_ctr 4 (113) h) := by
  show x_W G M_CT_init (x_rc 2 108 74130) (x_Q G (x_rc 2 108 74130) true (x_ctr 4 (113) h)) true (5) h 0 0 [(0, .ref 4)] [] 0
  refine x_cong (h' := (x_o 4 (.inr (3, [.null, .null, .int 0, .int 0, .int 0])) 4 (x_t 4) h)) (fun k hk => x_o_0 h0 (by omega) hk) ?_
  refine x_aload_n d_CT_init_0 rfl rfl ?_
  refine x_objI d_CT_init_1 w_106 (Nat.le_of_ble_eq_true rfl) (Nat.le_of_ble_eq_true rfl) (Nat.le_of_ble_eq_true rfl) ?_
  refine x_aload_n d_CT_init_4 rfl rfl ?_
  refine x_newO (ci := 4) (fs := [.null, .null]) d_CT_init_5 rfl wu_NM tb_NM w_107 w_108 w_7 (fr_NM G) (by unfold x_N; omega) (Nat.le_of_ble_eq_true rfl) (Nat.le_of_ble_eq_true rfl) ?_
  refine x_dup d_CT_init_8 rfl ?_
  refine x_iniN (M2 := M_NM_init) (As := []) (st := [.ref 5, .ref 4]) (e := 8) d_CT_init_9 (c_NM_init (by rw [va_up_self])) ki_NM_init wl_109 (by omega) (by omega) ⟨(Nat.le_of_ble_eq_true rfl), (Nat.le_of_ble_eq_true rfl)⟩ (Nat.le_of_ble_eq_true rfl) (Nat.le_of_ble_eq_true rfl) (Nat.le_of_ble_eq_true rfl) (Nat.le_of_ble_eq_true rfl) rfl ?_
  refine x_putF d_CT_init_12 (f_CT_12 rfl) tb_CT rfl rfl rfl (by omega) x_o_p (Nat.le_of_ble_eq_true rfl) rfl rfl ?_
  refine x_cong (h' := (x_o 4 (.inr (3, [.ref 5, .null, .int 0, .int 0, .int 0])) 4 (x_t 4) h)) (fun k hk => congrFun x_o_up k) ?_
  refine x_aload_n d_CT_init_15 rfl rfl ?_
  refine x_bipush (v := 8) d_CT_init_16 (by decide) ?_
  refine x_newQ (t := 4) (N := 8) d_CT_init_18 rfl wr_ao4 w_121 (by decide +kernel) (by decide +kernel) (by decide +kernel) (by unfold x_N; omega) (Nat.le_of_ble_eq_true rfl) (Nat.le_of_ble_eq_true rfl) ?_
  refine x_cong (h' := (x_o 4 (.inr (3, [.ref 5, .null, .int 0, .int 0, .int 0])) 8 (.inl (4, 8, .inr (.inr (.inr (.inr (x_fi 9 13 0)))))) h)) (fun k hk => (by rw [x_fi0]; exact congrFun (x_o_sw (by omega)) k)) ?_
  refine x_putF d_CT_init_21 (f_CT_20 rfl) tb_CT rfl rfl rfl (by omega) x_o_p (Nat.le_of_ble_eq_true rfl) rfl rfl ?_
  refine x_cong (h' := (x_o 4 (.inr (3, [.ref 5, .ref 8, .int 0, .int 0, .int 0])) 8 (.inl (4, 8, .inr (.inr (.inr (.inr (x_fi 9 13 0)))))) h)) (fun k hk => congrFun x_o_up k) ?_
  refine x_iconst (v := 0) d_CT_init_24 (by decide) ?_
  refine x_istore_n (lv2 := [(0, .ref 4), (1, .int 0)]) d_CT_init_25 rfl (by decide) rfl ?_
  exact l_CT_init 8 0 rfl
theorem tf_CG : x_t 113 = .inr (6, [.ref 3, .ref 4, .ref 5]) := rfl
theorem c_CG_init {G : x_G} {h : x_h} (h0 : h 113 = .inr (6, [.null, .null, .null])) (h4 : h 4 = x_t 4) : x_R G M_CG_init (x_rc 1 0 0) true [.ref 113, .ref 3, .ref 4] (114) h (x_ctr 113 (114) h) := by
  show x_W G M_CG_init (x_rc 1 0 0) (x_Q G (x_rc 1 0 0) true (x_ctr 113 (114) h)) true (114) h 0 0 [(0, .ref 113), (1, .ref 3), (2, .ref 4)] [] 0
  refine x_cong (h' := (x_o 113 (.inr (6, [.null, .null, .null])) 113 (x_t 113) h)) (fun k hk => x_o_0 h0 (by omega) hk) ?_
  refine x_aload_n d_CG_init_0 rfl rfl ?_
  refine x_objI d_CG_init_1 w_197 (Nat.le_of_ble_eq_true rfl) (Nat.le_of_ble_eq_true rfl) (Nat.le_of_ble_eq_true rfl) ?_
  refine x_aload_n d_CG_init_4 rfl rfl ?_
  refine x_aload_n d_CG_init_5 rfl rfl ?_
  refine x_putF d_CG_init_6 (f_CG_9 rfl) tb_CG rfl rfl rfl (by omega) x_o_p (Nat.le_of_ble_eq_true rfl) rfl rfl ?_
  refine x_cong (h' := (x_o 113 (.inr (6, [.ref 3, .null, .null])) 113 (x_t 113) h)) (fun k hk => congrFun x_o_up k) ?_
  refine x_aload_n d_CG_init_9 rfl rfl ?_
  refine x_aload_n d_CG_init_10 rfl rfl ?_
  refine x_putF d_CG_init_11 (f_CG_15 rfl) tb_CG rfl rfl rfl (by omega) x_o_p (Nat.le_of_ble_eq_true rfl) rfl rfl ?_
  refine x_cong (h' := (x_o 113 (.inr (6, [.ref 3, .ref 4, .null])) 113 (x_t 113) h)) (fun k hk => congrFun x_o_up k) ?_
  refine x_aload_n d_CG_init_14 rfl rfl ?_
  refine x_aload_n d_CG_init_15 rfl rfl ?_
  refine x_getf (v := .ref 5) d_CG_init_16 (f_CG_19 rfl) (by omega) ((x_o_lo (by omega) (by omega)).trans (h4.trans (x_hp_o sh_CT))) rfl ?_
  refine x_putF d_CG_init_19 (f_CG_25 rfl) tb_CG rfl rfl rfl (by omega) x_o_p (Nat.le_of_ble_eq_true rfl) rfl rfl ?_
  refine x_cong (h' := (x_o 113 (.inr (6, [.ref 3, .ref 4, .ref 5])) 113 (x_t 113) h)) (fun k hk => congrFun x_o_up k) ?_
  exact x_vret d_CG_init_22 rfl (Nat.le_of_ble_eq_true rfl) (Nat.le_of_ble_eq_true rfl) ⟨rfl, rfl, fun k hk => x_o_end (tf_CG).symm rfl (Nat.le_refl _)⟩
theorem tf_CN {p : Nat} (hp : x_CN p) : x_t p = .inr (9, [.int 0, .int 0, .ref (p + 1), .int 0, .ref (p + 2), .ref (p + 3), .ref (p + 4), .ref (p + 5), .ref (p + 6), .ref (p + 7), .ref (p + 8), .ref (p + 9)]) := by rcases hp with rfl | rfl <;> rfl
theorem l_CN_init {G : x_G} {h : x_h} {p : Nat} (hp : x_CN p) : ∀ (k i : Nat), i + k = 60 → x_W G M_CN_init (x_rc 2 129 3358) (x_Q G (x_rc 2 129 3358) true (x_ctr p (p + 130) h)) true ((p + 10) + 2 * i) (x_o p (.inr (9, [.int 0, .int 0, .ref (p + 1), .int 0, .ref (p + 2), .ref (p + 3), .ref (p + 4), .ref (p + 5), .ref (p + 6), .ref (p + 7), .ref (p + 8), .ref (p + 9)])) (p + 1) (.inl (5, 60, .inr (.inr (.inr (.inr (x_fi (p + 10) 2 i)))))) h) (9 + 2 * i) (598 + 46 * i) [(0, .ref p), (1, .int (Int32.ofNat i))] [] 79 := by
  have hbd := x_CN_b hp
  intro k
  induction k with
  | zero =>
    intro i hi
    have hi2 : i = 60 := hi
    subst hi2
    refine x_iload_n d_CN_init_79 rfl rfl ?_
    refine x_bipush (v := 60) d_CN_init_80 (by decide) ?_
    refine x_icmp_ge (tgt := 104) d_CN_init_82 (by decide) (fun c_ => ?_) (fun c_ => absurd (show (60 : Int32) ≤ Int32.ofNat 60 from (x_ile (a := 60) (b := 60) (by decide) (by decide)).mpr (Nat.le_refl _)) c_)
    exact x_vret d_CN_init_104 rfl (Nat.le_of_ble_eq_true rfl) (Nat.le_of_ble_eq_true rfl) ⟨rfl, rfl, fun k hk => x_o_end (tf_CN hp).symm ((x_hp_r (sa_CN_comparisons hp)).trans rfl).symm (by omega)⟩
  | succ k ih =>
    intro i hi0
    have hi : i < 60 := by omega
    refine x_iload_n d_CN_init_79 rfl rfl ?_
    refine x_bipush (v := 60) d_CN_init_80 (by decide) ?_
    refine x_icmp_ge (tgt := 104) d_CN_init_82 (by decide) (fun c_ => absurd ((x_ile (a := 60) (b := i) (by decide) (by omega)).mp (show Int32.ofNat 60 ≤ Int32.ofNat i from c_)) (by omega)) (fun c_ => ?_)
    refine x_aload_n d_CN_init_85 rfl rfl ?_
    refine x_getf (v := .ref (p + 1)) d_CN_init_86 (f_CN_13 rfl) (by omega) x_o_p rfl ?_
    refine x_iload_n d_CN_init_89 rfl rfl ?_
    refine x_newO (ci := 10) (fs := [.int 0, .int 0, .int 0, .int 0, .int 0, .null]) d_CN_init_90 rfl wu_CP tb_CP w_226 w_228 w_13 (fr_CP G) (by unfold x_N; omega) (by show _ ≤ 129; omega) (by show _ ≤ 3358; omega) ?_
    refine x_dup d_CN_init_93 rfl ?_
    refine x_iniN (M2 := M_CP_init) (As := []) (st := [.ref ((p + 10) + 2 * i), .int (Int32.ofNat i), .ref (p + 1)]) (e := (p + 10) + 2 * (i + 1)) d_CN_init_94 (c_CP_init (x_CP_of hp hi) (by omega) (by rw [va_up_self])) ki_CP_init wl_229 (by omega) (by omega) ⟨(Nat.le_of_ble_eq_true rfl), (Nat.le_of_ble_eq_true rfl)⟩ (by show _ + 1 ≤ 129; omega) (by show _ + 40 ≤ 3358; omega) (Nat.le_of_ble_eq_true rfl) (Nat.le_of_ble_eq_true rfl) rfl ?_
    refine x_aast (t := 5) d_CN_init_97 rfl (by omega) (x_o_q (by omega)) (by omega) ((x_o_hi (by omega) (by omega)).trans (x_hp_o (sh_CP (x_CP_of hp hi)))) rfl (x_iin (by omega) hi) ?_
    refine x_cong (h' := (x_o p (.inr (9, [.int 0, .int 0, .ref (p + 1), .int 0, .ref (p + 2), .ref (p + 3), .ref (p + 4), .ref (p + 5), .ref (p + 6), .ref (p + 7), .ref (p + 8), .ref (p + 9)])) (p + 1) (.inl (5, 60, .inr (.inr (.inr (.inr (x_fi (p + 10) 2 (i + 1))))))) h)) (fun k hk => (by rw [x_icl (show i < 2 ^ 31 by omega), x_fi_next rfl]; exact congrFun (x_o_uq (by omega)) k)) ?_
    refine x_wide (c1 := 9 + 2 * (i + 1)) (s1 := 598 + 46 * (i + 1)) (by show _ + 1 + 1 ≤ _; omega) (by show _ + 6 + 40 ≤ _; omega) ?_
    refine x_iinc (v := Int32.ofNat (i + 1)) (lv2 := [(0, .ref p), (1, .int (Int32.ofNat (i + 1)))]) d_CN_init_98 rfl (x_inx i) (by decide) rfl ?_
    refine x_goto (tgt := 79) d_CN_init_101 (by decide) ?_
    exact ih (i + 1) (by omega)
theorem c_CN_init {G : x_G} {h : x_h} {p e : Nat} (hp : x_CN p) (he : e = p + 130) (h0 : h p = .inr (9, [.int 0, .int 0, .null, .int 0, .null, .null, .null, .null, .null, .null, .null, .null])) : x_R G M_CN_init (x_rc 2 129 3358) true [.ref p] (p + 1) h (x_ctr p (e) h) := by
  subst he
  have hbd := x_CN_b hp
  show x_W G M_CN_init (x_rc 2 129 3358) (x_Q G (x_rc 2 129 3358) true (x_ctr p (p + 130) h)) true (p + 1) h 0 0 [(0, .ref p)] [] 0
  refine x_cong (h' := (x_o p (.inr (9, [.int 0, .int 0, .null, .int 0, .null, .null, .null, .null, .null, .null, .null, .null])) (p + 1) (x_t (p + 1)) h)) (fun k hk => x_o_0 h0 (by omega) hk) ?_
  refine x_aload_n d_CN_init_0 rfl rfl ?_
  refine x_objI d_CN_init_1 w_225 (Nat.le_of_ble_eq_true rfl) (Nat.le_of_ble_eq_true rfl) (Nat.le_of_ble_eq_true rfl) ?_
  refine x_aload_n d_CN_init_4 rfl rfl ?_
  refine x_bipush (v := 60) d_CN_init_5 (by decide) ?_
  refine x_newQ (t := 5) (N := 60) d_CN_init_7 rfl wr_ao5 w_226 (by decide +kernel) (by decide +kernel) (by decide +kernel) (by unfold x_N; omega) (Nat.le_of_ble_eq_true rfl) (Nat.le_of_ble_eq_true rfl) ?_
  refine x_cong (h' := (x_o p (.inr (9, [.int 0, .int 0, .null, .int 0, .null, .null, .null, .null, .null, .null, .null, .null])) (p + 1) (.inl (5, 60, .inr (.inr (.inr (.inr (x_fi (p + 10) 2 0)))))) h)) (fun k hk => (by rw [x_fi0]; exact congrFun (x_o_uq (by omega)) k)) ?_
  refine x_putF d_CN_init_10 (f_CN_13 rfl) tb_CN rfl rfl rfl (by omega) x_o_p (Nat.le_of_ble_eq_true rfl) rfl rfl ?_
  refine x_cong (h' := (x_o p (.inr (9, [.int 0, .int 0, .ref (p + 1), .int 0, .null, .null, .null, .null, .null, .null, .null, .null])) (p + 1) (.inl (5, 60, .inr (.inr (.inr (.inr (x_fi (p + 10) 2 0)))))) h)) (fun k hk => congrFun x_o_up k) ?_
  refine x_aload_n d_CN_init_13 rfl rfl ?_
  refine x_bipush (v := 59) d_CN_init_14 (by decide) ?_
  refine x_newA (t := 0) (N := 59) (a0 := (59, .inl (fun _ => 0))) d_CN_init_16 rfl w_120 (by decide +kernel) (by decide +kernel) (by decide +kernel) (fun _ => rfl) (by unfold x_N; omega) (Nat.le_of_ble_eq_true rfl) (Nat.le_of_ble_eq_true rfl) ?_
  refine x_cong (h' := (x_o p (.inr (9, [.int 0, .int 0, .ref (p + 1), .int 0, .null, .null, .null, .null, .null, .null, .null, .null])) (p + 1) (.inl (5, 60, .inr (.inr (.inr (.inr (x_fi (p + 10) 2 0)))))) h)) (fun k hk => congrFun (x_o_un (by omega) (by omega) (x_tz (sa_CN_lefts hp) (by have hb_ := x_CN_b hp; omega))) k) ?_
  refine x_putF d_CN_init_18 (f_CN_17 rfl) tb_CN rfl rfl rfl (by omega) x_o_p (Nat.le_of_ble_eq_true rfl) rfl rfl ?_
  refine x_cong (h' := (x_o p (.inr (9, [.int 0, .int 0, .ref (p + 1), .int 0, .ref (p + 2), .null, .null, .null, .null, .null, .null, .null])) (p + 1) (.inl (5, 60, .inr (.inr (.inr (.inr (x_fi (p + 10) 2 0)))))) h)) (fun k hk => congrFun x_o_up k) ?_
  refine x_aload_n d_CN_init_21 rfl rfl ?_
  refine x_bipush (v := 59) d_CN_init_22 (by decide) ?_
  refine x_newA (t := 0) (N := 59) (a0 := (59, .inl (fun _ => 0))) d_CN_init_24 rfl w_120 (by decide +kernel) (by decide +kernel) (by decide +kernel) (fun _ => rfl) (by unfold x_N; omega) (Nat.le_of_ble_eq_true rfl) (Nat.le_of_ble_eq_true rfl) ?_
  refine x_cong (h' := (x_o p (.inr (9, [.int 0, .int 0, .ref (p + 1), .int 0, .ref (p + 2), .null, .null, .null, .null, .null, .null, .null])) (p + 1) (.inl (5, 60, .inr (.inr (.inr (.inr (x_fi (p + 10) 2 0)))))) h)) (fun k hk => congrFun (x_o_un (by omega) (by omega) (x_tz (sa_CN_rights hp) (by have hb_ := x_CN_b hp; omega))) k) ?_
  refine x_putF d_CN_init_26 (f_CN_21 rfl) tb_CN rfl rfl rfl (by omega) x_o_p (Nat.le_of_ble_eq_true rfl) rfl rfl ?_
  refine x_cong (h' := (x_o p (.inr (9, [.int 0, .int 0, .ref (p + 1), .int 0, .ref (p + 2), .ref (p + 3), .null, .null, .null, .null, .null, .null])) (p + 1) (.inl (5, 60, .inr (.inr (.inr (.inr (x_fi (p + 10) 2 0)))))) h)) (fun k hk => congrFun x_o_up k) ?_
  refine x_aload_n d_CN_init_29 rfl rfl ?_
  refine x_bipush (v := 59) d_CN_init_30 (by decide) ?_
  refine x_newA (t := 2) (N := 59) (a0 := (59, .inl (fun _ => 0))) d_CN_init_32 rfl w_254 (by decide +kernel) (by decide +kernel) (by decide +kernel) (fun _ => rfl) (by unfold x_N; omega) (Nat.le_of_ble_eq_true rfl) (Nat.le_of_ble_eq_true rfl) ?_
  refine x_cong (h' := (x_o p (.inr (9, [.int 0, .int 0, .ref (p + 1), .int 0, .ref (p + 2), .ref (p + 3), .null, .null, .null, .null, .null, .null])) (p + 1) (.inl (5, 60, .inr (.inr (.inr (.inr (x_fi (p + 10) 2 0)))))) h)) (fun k hk => congrFun (x_o_un (by omega) (by omega) (x_tz (sa_CN_isAnd hp) (by have hb_ := x_CN_b hp; omega))) k) ?_
  refine x_putF d_CN_init_34 (f_CN_24 rfl) tb_CN rfl rfl rfl (by omega) x_o_p (Nat.le_of_ble_eq_true rfl) rfl rfl ?_
  refine x_cong (h' := (x_o p (.inr (9, [.int 0, .int 0, .ref (p + 1), .int 0, .ref (p + 2), .ref (p + 3), .ref (p + 4), .null, .null, .null, .null, .null])) (p + 1) (.inl (5, 60, .inr (.inr (.inr (.inr (x_fi (p + 10) 2 0)))))) h)) (fun k hk => congrFun x_o_up k) ?_
  refine x_aload_n d_CN_init_37 rfl rfl ?_
  refine x_bipush (v := 119) d_CN_init_38 (by decide) ?_
  refine x_newA (t := 2) (N := 119) (a0 := (119, .inl (fun _ => 0))) d_CN_init_40 rfl w_254 (by decide +kernel) (by decide +kernel) (by decide +kernel) (fun _ => rfl) (by unfold x_N; omega) (Nat.le_of_ble_eq_true rfl) (Nat.le_of_ble_eq_true rfl) ?_
  refine x_cong (h' := (x_o p (.inr (9, [.int 0, .int 0, .ref (p + 1), .int 0, .ref (p + 2), .ref (p + 3), .ref (p + 4), .null, .null, .null, .null, .null])) (p + 1) (.inl (5, 60, .inr (.inr (.inr (.inr (x_fi (p + 10) 2 0)))))) h)) (fun k hk => congrFun (x_o_un (by omega) (by omega) (x_tz (sa_CN_isNegated hp) (by have hb_ := x_CN_b hp; omega))) k) ?_
  refine x_putF d_CN_init_42 (f_CN_28 rfl) tb_CN rfl rfl rfl (by omega) x_o_p (Nat.le_of_ble_eq_true rfl) rfl rfl ?_
  refine x_cong (h' := (x_o p (.inr (9, [.int 0, .int 0, .ref (p + 1), .int 0, .ref (p + 2), .ref (p + 3), .ref (p + 4), .ref (p + 5), .null, .null, .null, .null])) (p + 1) (.inl (5, 60, .inr (.inr (.inr (.inr (x_fi (p + 10) 2 0)))))) h)) (fun k hk => congrFun x_o_up k) ?_
  refine x_aload_n d_CN_init_45 rfl rfl ?_
  refine x_bipush (v := 119) d_CN_init_46 (by decide) ?_
  refine x_newA (t := 2) (N := 119) (a0 := (119, .inl (fun _ => 0))) d_CN_init_48 rfl w_254 (by decide +kernel) (by decide +kernel) (by decide +kernel) (fun _ => rfl) (by unfold x_N; omega) (Nat.le_of_ble_eq_true rfl) (Nat.le_of_ble_eq_true rfl) ?_
  refine x_cong (h' := (x_o p (.inr (9, [.int 0, .int 0, .ref (p + 1), .int 0, .ref (p + 2), .ref (p + 3), .ref (p + 4), .ref (p + 5), .null, .null, .null, .null])) (p + 1) (.inl (5, 60, .inr (.inr (.inr (.inr (x_fi (p + 10) 2 0)))))) h)) (fun k hk => congrFun (x_o_un (by omega) (by omega) (x_tz (sa_CN_truths hp) (by have hb_ := x_CN_b hp; omega))) k) ?_
  refine x_putF d_CN_init_50 (f_CN_31 rfl) tb_CN rfl rfl rfl (by omega) x_o_p (Nat.le_of_ble_eq_true rfl) rfl rfl ?_
  refine x_cong (h' := (x_o p (.inr (9, [.int 0, .int 0, .ref (p + 1), .int 0, .ref (p + 2), .ref (p + 3), .ref (p + 4), .ref (p + 5), .ref (p + 6), .null, .null, .null])) (p + 1) (.inl (5, 60, .inr (.inr (.inr (.inr (x_fi (p + 10) 2 0)))))) h)) (fun k hk => congrFun x_o_up k) ?_
  refine x_aload_n d_CN_init_53 rfl rfl ?_
  refine x_bipush (v := 41) d_CN_init_54 (by decide) ?_
  refine x_newA (t := 0) (N := 41) (a0 := (41, .inl (fun _ => 0))) d_CN_init_56 rfl w_120 (by decide +kernel) (by decide +kernel) (by decide +kernel) (fun _ => rfl) (by unfold x_N; omega) (Nat.le_of_ble_eq_true rfl) (Nat.le_of_ble_eq_true rfl) ?_
  refine x_cong (h' := (x_o p (.inr (9, [.int 0, .int 0, .ref (p + 1), .int 0, .ref (p + 2), .ref (p + 3), .ref (p + 4), .ref (p + 5), .ref (p + 6), .null, .null, .null])) (p + 1) (.inl (5, 60, .inr (.inr (.inr (.inr (x_fi (p + 10) 2 0)))))) h)) (fun k hk => congrFun (x_o_un (by omega) (by omega) (x_tz (sa_CN_beforeOr hp) (by have hb_ := x_CN_b hp; omega))) k) ?_
  refine x_putF d_CN_init_58 (f_CN_34 rfl) tb_CN rfl rfl rfl (by omega) x_o_p (Nat.le_of_ble_eq_true rfl) rfl rfl ?_
  refine x_cong (h' := (x_o p (.inr (9, [.int 0, .int 0, .ref (p + 1), .int 0, .ref (p + 2), .ref (p + 3), .ref (p + 4), .ref (p + 5), .ref (p + 6), .ref (p + 7), .null, .null])) (p + 1) (.inl (5, 60, .inr (.inr (.inr (.inr (x_fi (p + 10) 2 0)))))) h)) (fun k hk => congrFun x_o_up k) ?_
  refine x_aload_n d_CN_init_61 rfl rfl ?_
  refine x_bipush (v := 41) d_CN_init_62 (by decide) ?_
  refine x_newA (t := 0) (N := 41) (a0 := (41, .inl (fun _ => 0))) d_CN_init_64 rfl w_120 (by decide +kernel) (by decide +kernel) (by decide +kernel) (fun _ => rfl) (by unfold x_N; omega) (Nat.le_of_ble_eq_true rfl) (Nat.le_of_ble_eq_true rfl) ?_
  refine x_cong (h' := (x_o p (.inr (9, [.int 0, .int 0, .ref (p + 1), .int 0, .ref (p + 2), .ref (p + 3), .ref (p + 4), .ref (p + 5), .ref (p + 6), .ref (p + 7), .null, .null])) (p + 1) (.inl (5, 60, .inr (.inr (.inr (.inr (x_fi (p + 10) 2 0)))))) h)) (fun k hk => congrFun (x_o_un (by omega) (by omega) (x_tz (sa_CN_beforeAnd hp) (by have hb_ := x_CN_b hp; omega))) k) ?_
  refine x_putF d_CN_init_66 (f_CN_37 rfl) tb_CN rfl rfl rfl (by omega) x_o_p (Nat.le_of_ble_eq_true rfl) rfl rfl ?_
  refine x_cong (h' := (x_o p (.inr (9, [.int 0, .int 0, .ref (p + 1), .int 0, .ref (p + 2), .ref (p + 3), .ref (p + 4), .ref (p + 5), .ref (p + 6), .ref (p + 7), .ref (p + 8), .null])) (p + 1) (.inl (5, 60, .inr (.inr (.inr (.inr (x_fi (p + 10) 2 0)))))) h)) (fun k hk => congrFun x_o_up k) ?_
  refine x_aload_n d_CN_init_69 rfl rfl ?_
  refine x_bipush (v := 41) d_CN_init_70 (by decide) ?_
  refine x_newA (t := 2) (N := 41) (a0 := (41, .inl (fun _ => 0))) d_CN_init_72 rfl w_254 (by decide +kernel) (by decide +kernel) (by decide +kernel) (fun _ => rfl) (by unfold x_N; omega) (Nat.le_of_ble_eq_true rfl) (Nat.le_of_ble_eq_true rfl) ?_
  refine x_cong (h' := (x_o p (.inr (9, [.int 0, .int 0, .ref (p + 1), .int 0, .ref (p + 2), .ref (p + 3), .ref (p + 4), .ref (p + 5), .ref (p + 6), .ref (p + 7), .ref (p + 8), .null])) (p + 1) (.inl (5, 60, .inr (.inr (.inr (.inr (x_fi (p + 10) 2 0)))))) h)) (fun k hk => congrFun (x_o_un (by omega) (by omega) (x_tz (sa_CN_isNotAhead hp) (by have hb_ := x_CN_b hp; omega))) k) ?_
  refine x_putF d_CN_init_74 (f_CN_40 rfl) tb_CN rfl rfl rfl (by omega) x_o_p (Nat.le_of_ble_eq_true rfl) rfl rfl ?_
  refine x_cong (h' := (x_o p (.inr (9, [.int 0, .int 0, .ref (p + 1), .int 0, .ref (p + 2), .ref (p + 3), .ref (p + 4), .ref (p + 5), .ref (p + 6), .ref (p + 7), .ref (p + 8), .ref (p + 9)])) (p + 1) (.inl (5, 60, .inr (.inr (.inr (.inr (x_fi (p + 10) 2 0)))))) h)) (fun k hk => congrFun x_o_up k) ?_
  refine x_iconst (v := 0) d_CN_init_77 (by decide) ?_
  refine x_istore_n (lv2 := [(0, .ref p), (1, .int 0)]) d_CN_init_78 rfl (by decide) rfl ?_
  exact l_CN_init hp 60 0 rfl
theorem tf_QU {p : Nat} (hp : x_QB p) : x_t p = .inr (8, [.int 0, .ref (p + 1), .ref (p + 2), .ref (p + 3), .int 0, .ref (p + 4), .int 0, .ref (p + 5), .ref (p + 6)]) := by rcases hp with rfl | rfl <;> rfl
theorem c_QU_init {G : x_G} {h : x_h} {p e : Nat} (hp : x_QB p) (he : e = p + 136) (h0 : h p = .inr (8, [.int 0, .null, .null, .null, .int 0, .null, .int 0, .null, .null])) : x_R G M_QU_init (x_rc 3 135 3482) true [.ref p] (p + 1) h (x_ctr p (e) h) := by
  subst he
  have hbd := x_QB_b hp
  show x_W G M_QU_init (x_rc 3 135 3482) (x_Q G (x_rc 3 135 3482) true (x_ctr p (p + 136) h)) true (p + 1) h 0 0 [(0, .ref p)] [] 0
  refine x_cong (h' := (x_o p (.inr (8, [.int 0, .null, .null, .null, .int 0, .null, .int 0, .null, .null])) p (x_t p) h)) (fun k hk => x_o_0 h0 (by omega) hk) ?_
  refine x_aload_n d_QU_init_0 rfl rfl ?_
  refine x_objI d_QU_init_1 w_219 (Nat.le_of_ble_eq_true rfl) (Nat.le_of_ble_eq_true rfl) (Nat.le_of_ble_eq_true rfl) ?_
  refine x_aload_n d_QU_init_4 rfl rfl ?_
  refine x_bipush (v := 24) d_QU_init_5 (by decide) ?_
  refine x_newA (t := 0) (N := 24) (a0 := (24, .inl (fun _ => 0))) d_QU_init_7 rfl w_120 (by decide +kernel) (by decide +kernel) (by decide +kernel) (fun _ => rfl) (by unfold x_N; omega) (Nat.le_of_ble_eq_true rfl) (Nat.le_of_ble_eq_true rfl) ?_
  refine x_cong (h' := (x_o p (.inr (8, [.int 0, .null, .null, .null, .int 0, .null, .int 0, .null, .null])) p (x_t p) h)) (fun k hk => congrFun (x_o_un (by omega) (by omega) (x_tz (sa_QU_itemTypes hp) (by have hb_ := x_QB_b hp; omega))) k) ?_
  refine x_putF d_QU_init_9 (f_QU_11 rfl) tb_QU rfl rfl rfl (by omega) x_o_p (Nat.le_of_ble_eq_true rfl) rfl rfl ?_
  refine x_cong (h' := (x_o p (.inr (8, [.int 0, .ref (p + 1), .null, .null, .int 0, .null, .int 0, .null, .null])) p (x_t p) h)) (fun k hk => congrFun x_o_up k) ?_
  refine x_aload_n d_QU_init_12 rfl rfl ?_
  refine x_bipush (v := 24) d_QU_init_13 (by decide) ?_
  refine x_newA (t := 0) (N := 24) (a0 := (24, .inl (fun _ => 0))) d_QU_init_15 rfl w_120 (by decide +kernel) (by decide +kernel) (by decide +kernel) (fun _ => rfl) (by unfold x_N; omega) (Nat.le_of_ble_eq_true rfl) (Nat.le_of_ble_eq_true rfl) ?_
  refine x_cong (h' := (x_o p (.inr (8, [.int 0, .ref (p + 1), .null, .null, .int 0, .null, .int 0, .null, .null])) p (x_t p) h)) (fun k hk => congrFun (x_o_un (by omega) (by omega) (x_tz (sa_QU_itemTargets hp) (by have hb_ := x_QB_b hp; omega))) k) ?_
  refine x_putF d_QU_init_17 (f_QU_15 rfl) tb_QU rfl rfl rfl (by omega) x_o_p (Nat.le_of_ble_eq_true rfl) rfl rfl ?_
  refine x_cong (h' := (x_o p (.inr (8, [.int 0, .ref (p + 1), .ref (p + 2), .null, .int 0, .null, .int 0, .null, .null])) p (x_t p) h)) (fun k hk => congrFun x_o_up k) ?_
  refine x_aload_n d_QU_init_20 rfl rfl ?_
  refine x_bipush (v := 24) d_QU_init_21 (by decide) ?_
  refine x_newA (t := 0) (N := 24) (a0 := (24, .inl (fun _ => 0))) d_QU_init_23 rfl w_120 (by decide +kernel) (by decide +kernel) (by decide +kernel) (fun _ => rfl) (by unfold x_N; omega) (Nat.le_of_ble_eq_true rfl) (Nat.le_of_ble_eq_true rfl) ?_
  refine x_cong (h' := (x_o p (.inr (8, [.int 0, .ref (p + 1), .ref (p + 2), .null, .int 0, .null, .int 0, .null, .null])) p (x_t p) h)) (fun k hk => congrFun (x_o_un (by omega) (by omega) (x_tz (sa_QU_itemPlaces hp) (by have hb_ := x_QB_b hp; omega))) k) ?_
  refine x_putF d_QU_init_25 (f_QU_18 rfl) tb_QU rfl rfl rfl (by omega) x_o_p (Nat.le_of_ble_eq_true rfl) rfl rfl ?_
  refine x_cong (h' := (x_o p (.inr (8, [.int 0, .ref (p + 1), .ref (p + 2), .ref (p + 3), .int 0, .null, .int 0, .null, .null])) p (x_t p) h)) (fun k hk => congrFun x_o_up k) ?_
  refine x_aload_n d_QU_init_28 rfl rfl ?_
  refine x_bipush (v := 8) d_QU_init_29 (by decide) ?_
  refine x_newA (t := 0) (N := 8) (a0 := (8, .inl (fun _ => 0))) d_QU_init_31 rfl w_120 (by decide +kernel) (by decide +kernel) (by decide +kernel) (fun _ => rfl) (by unfold x_N; omega) (Nat.le_of_ble_eq_true rfl) (Nat.le_of_ble_eq_true rfl) ?_
  refine x_cong (h' := (x_o p (.inr (8, [.int 0, .ref (p + 1), .ref (p + 2), .ref (p + 3), .int 0, .null, .int 0, .null, .null])) p (x_t p) h)) (fun k hk => congrFun (x_o_un (by omega) (by omega) (x_tz (sa_QU_columns hp) (by have hb_ := x_QB_b hp; omega))) k) ?_
  refine x_putF d_QU_init_33 (f_QU_21 rfl) tb_QU rfl rfl rfl (by omega) x_o_p (Nat.le_of_ble_eq_true rfl) rfl rfl ?_
  refine x_cong (h' := (x_o p (.inr (8, [.int 0, .ref (p + 1), .ref (p + 2), .ref (p + 3), .int 0, .ref (p + 4), .int 0, .null, .null])) p (x_t p) h)) (fun k hk => congrFun x_o_up k) ?_
  refine x_aload_n d_QU_init_36 rfl rfl ?_
  refine x_bipush (v := 32) d_QU_init_37 (by decide) ?_
  refine x_newA (t := 0) (N := 32) (a0 := (32, .inl (fun _ => 0))) d_QU_init_39 rfl w_120 (by decide +kernel) (by decide +kernel) (by decide +kernel) (fun _ => rfl) (by unfold x_N; omega) (Nat.le_of_ble_eq_true rfl) (Nat.le_of_ble_eq_true rfl) ?_
  refine x_cong (h' := (x_o p (.inr (8, [.int 0, .ref (p + 1), .ref (p + 2), .ref (p + 3), .int 0, .ref (p + 4), .int 0, .null, .null])) p (x_t p) h)) (fun k hk => congrFun (x_o_un (by omega) (by omega) (x_tz (sa_QU_sets hp) (by have hb_ := x_QB_b hp; omega))) k) ?_
  refine x_putF d_QU_init_41 (f_QU_24 rfl) tb_QU rfl rfl rfl (by omega) x_o_p (Nat.le_of_ble_eq_true rfl) rfl rfl ?_
  refine x_cong (h' := (x_o p (.inr (8, [.int 0, .ref (p + 1), .ref (p + 2), .ref (p + 3), .int 0, .ref (p + 4), .int 0, .ref (p + 5), .null])) p (x_t p) h)) (fun k hk => congrFun x_o_up k) ?_
  refine x_aload_n d_QU_init_44 rfl rfl ?_
  refine x_newO (ci := 9) (fs := [.int 0, .int 0, .null, .int 0, .null, .null, .null, .null, .null, .null, .null, .null]) d_QU_init_45 rfl wu_CN tb_CN w_220 w_221 w_12 (fr_CN G) (by unfold x_N; omega) (Nat.le_of_ble_eq_true rfl) (Nat.le_of_ble_eq_true rfl) ?_
  refine x_dup d_QU_init_48 rfl ?_
  refine x_iniI (M2 := M_CN_init) (As := []) (st := [.ref (p + 6), .ref p]) (e := p + 136) d_QU_init_49 (c_CN_init (x_CN_of hp) (by omega) (by rw [va_up_self])) ki_CN_init w_222 (by omega) (by omega) ⟨(Nat.le_of_ble_eq_true rfl), (Nat.le_of_ble_eq_true rfl)⟩ (Nat.le_of_ble_eq_true rfl) (Nat.le_of_ble_eq_true rfl) (Nat.le_of_ble_eq_true rfl) (Nat.le_of_ble_eq_true rfl) rfl ?_
  refine x_putF d_QU_init_52 (f_QU_30 rfl) tb_QU rfl rfl rfl (by omega) x_o_p (Nat.le_of_ble_eq_true rfl) rfl rfl ?_
  refine x_cong (h' := (x_o p (.inr (8, [.int 0, .ref (p + 1), .ref (p + 2), .ref (p + 3), .int 0, .ref (p + 4), .int 0, .ref (p + 5), .ref (p + 6)])) p (x_t p) h)) (fun k hk => congrFun x_o_up k) ?_
  exact x_vret d_QU_init_55 rfl (Nat.le_of_ble_eq_true rfl) (Nat.le_of_ble_eq_true rfl) ⟨rfl, rfl, fun k hk => x_o_end (tf_QU hp).symm rfl (Nat.le_refl _)⟩
theorem tf_QG : x_t 114 = .inr (7, [.ref 3, .ref 4, .ref 5, .ref 115, .ref 251]) := rfl
theorem c_QG_init {G : x_G} {h : x_h} (h0 : h 114 = .inr (7, [.null, .null, .null, .null, .null])) (h4 : h 4 = x_t 4) : x_R G M_QG_init (x_rc 4 272 6982) true [.ref 114, .ref 3, .ref 4] (115) h (x_ctr 114 (387) h) := by
  show x_W G M_QG_init (x_rc 4 272 6982) (x_Q G (x_rc 4 272 6982) true (x_ctr 114 (387) h)) true (115) h 0 0 [(0, .ref 114), (1, .ref 3), (2, .ref 4)] [] 0
  refine x_cong (h' := (x_o 114 (.inr (7, [.null, .null, .null, .null, .null])) 114 (x_t 114) h)) (fun k hk => x_o_0 h0 (by omega) hk) ?_
  refine x_aload_n d_QG_init_0 rfl rfl ?_
  refine x_objI d_QG_init_1 w_213 (Nat.le_of_ble_eq_true rfl) (Nat.le_of_ble_eq_true rfl) (Nat.le_of_ble_eq_true rfl) ?_
  refine x_aload_n d_QG_init_4 rfl rfl ?_
  refine x_newO (ci := 8) (fs := [.int 0, .null, .null, .null, .int 0, .null, .int 0, .null, .null]) d_QG_init_5 rfl wu_QU tb_QU w_214 w_215 w_11 (fr_QU G) (by unfold x_N; omega) (Nat.le_of_ble_eq_true rfl) (Nat.le_of_ble_eq_true rfl) ?_
  refine x_dup d_QG_init_8 rfl ?_
  refine x_iniN (M2 := M_QU_init) (As := []) (st := [.ref 115, .ref 114]) (e := 251) d_QG_init_9 (c_QU_init (Or.inl rfl) (by omega) (by rw [va_up_self])) ki_QU_init wl_216 (by omega) (by omega) ⟨(Nat.le_of_ble_eq_true rfl), (Nat.le_of_ble_eq_true rfl)⟩ (Nat.le_of_ble_eq_true rfl) (Nat.le_of_ble_eq_true rfl) (Nat.le_of_ble_eq_true rfl) (Nat.le_of_ble_eq_true rfl) rfl ?_
  refine x_putf d_QG_init_12 (f_QG_12 rfl) tb_QG rfl (by omega) x_o_p (Nat.le_of_ble_eq_true rfl) rfl rfl ?_
  refine x_cong (h' := (x_o 114 (.inr (7, [.null, .null, .null, .ref 115, .null])) 114 (x_t 114) h)) (fun k hk => congrFun x_o_up k) ?_
  refine x_aload_n d_QG_init_15 rfl rfl ?_
  refine x_newO (ci := 8) (fs := [.int 0, .null, .null, .null, .int 0, .null, .int 0, .null, .null]) d_QG_init_16 rfl wu_QU tb_QU w_214 w_215 w_11 (fr_QU G) (by unfold x_N; omega) (Nat.le_of_ble_eq_true rfl) (Nat.le_of_ble_eq_true rfl) ?_
  refine x_dup d_QG_init_19 rfl ?_
  refine x_iniN (M2 := M_QU_init) (As := []) (st := [.ref 251, .ref 114]) (e := 387) d_QG_init_20 (c_QU_init (Or.inr rfl) (by omega) (by rw [va_up_self])) ki_QU_init wl_216 (by omega) (by omega) ⟨(Nat.le_of_ble_eq_true rfl), (Nat.le_of_ble_eq_true rfl)⟩ (Nat.le_of_ble_eq_true rfl) (Nat.le_of_ble_eq_true rfl) (Nat.le_of_ble_eq_true rfl) (Nat.le_of_ble_eq_true rfl) rfl ?_
  refine x_putf d_QG_init_23 (f_QG_18 rfl) tb_QG rfl (by omega) x_o_p (Nat.le_of_ble_eq_true rfl) rfl rfl ?_
  refine x_cong (h' := (x_o 114 (.inr (7, [.null, .null, .null, .ref 115, .ref 251])) 114 (x_t 114) h)) (fun k hk => congrFun x_o_up k) ?_
  refine x_aload_n d_QG_init_26 rfl rfl ?_
  refine x_aload_n d_QG_init_27 rfl rfl ?_
  refine x_putF d_QG_init_28 (f_QG_21 rfl) tb_QG rfl rfl rfl (by omega) x_o_p (Nat.le_of_ble_eq_true rfl) rfl rfl ?_
  refine x_cong (h' := (x_o 114 (.inr (7, [.ref 3, .null, .null, .ref 115, .ref 251])) 114 (x_t 114) h)) (fun k hk => congrFun x_o_up k) ?_
  refine x_aload_n d_QG_init_31 rfl rfl ?_
  refine x_aload_n d_QG_init_32 rfl rfl ?_
  refine x_putF d_QG_init_33 (f_QG_25 rfl) tb_QG rfl rfl rfl (by omega) x_o_p (Nat.le_of_ble_eq_true rfl) rfl rfl ?_
  refine x_cong (h' := (x_o 114 (.inr (7, [.ref 3, .ref 4, .null, .ref 115, .ref 251])) 114 (x_t 114) h)) (fun k hk => congrFun x_o_up k) ?_
  refine x_aload_n d_QG_init_36 rfl rfl ?_
  refine x_aload_n d_QG_init_37 rfl rfl ?_
  refine x_getf (v := .ref 5) d_QG_init_38 (f_QG_29 rfl) (by omega) ((x_o_lo (by omega) (by omega)).trans (h4.trans (x_hp_o sh_CT))) rfl ?_
  refine x_putF d_QG_init_41 (f_QG_35 rfl) tb_QG rfl rfl rfl (by omega) x_o_p (Nat.le_of_ble_eq_true rfl) rfl rfl ?_
  refine x_cong (h' := (x_o 114 (.inr (7, [.ref 3, .ref 4, .ref 5, .ref 115, .ref 251])) 114 (x_t 114) h)) (fun k hk => congrFun x_o_up k) ?_
  exact x_vret d_QG_init_44 rfl (Nat.le_of_ble_eq_true rfl) (Nat.le_of_ble_eq_true rfl) ⟨rfl, rfl, fun k hk => x_o_end (tf_QG).symm rfl (Nat.le_refl _)⟩
theorem tf_QR : x_t 0 = .inr (0, [.ref 1, .ref 3, .ref 4, .ref 113, .ref 114]) := rfl
theorem c_QR_init {G : x_G} {h : x_h} (h0 : h 0 = .inr (0, [.null, .null, .null, .null, .null])) : x_R G M_QR_init (x_rc 5 386 146672) true [.ref 0] (1) h (x_ctr 0 (387) h) := by
  show x_W G M_QR_init (x_rc 5 386 146672) (x_Q G (x_rc 5 386 146672) true (x_ctr 0 (387) h)) true (1) h 0 0 [(0, .ref 0)] [] 0
  refine x_cong (h' := (x_o 0 (.inr (0, [.null, .null, .null, .null, .null])) 0 (x_t 0) h)) (fun k hk => x_o_0 h0 (by omega) hk) ?_
  refine x_aload_n d_QR_init_0 rfl rfl ?_
  refine x_objI d_QR_init_1 w_31 (Nat.le_of_ble_eq_true rfl) (Nat.le_of_ble_eq_true rfl) (Nat.le_of_ble_eq_true rfl) ?_
  refine x_aload_n d_QR_init_4 rfl rfl ?_
  refine x_newO (ci := 1) (fs := [.null, .int 0]) d_QR_init_5 rfl wu_TX tb_TX w_34 w_35 w_2 (fr_TX G) (by unfold x_N; omega) (Nat.le_of_ble_eq_true rfl) (Nat.le_of_ble_eq_true rfl) ?_
  refine x_dup d_QR_init_8 rfl ?_
  refine x_iniN (M2 := M_TX_init) (As := []) (st := [.ref 1, .ref 0]) (e := 3) d_QR_init_9 (c_TX_init (by rw [va_up_self])) ki_TX_init wl_36 (by omega) (by omega) ⟨(Nat.le_of_ble_eq_true rfl), (Nat.le_of_ble_eq_true rfl)⟩ (Nat.le_of_ble_eq_true rfl) (Nat.le_of_ble_eq_true rfl) (Nat.le_of_ble_eq_true rfl) (Nat.le_of_ble_eq_true rfl) rfl ?_
  refine x_putF d_QR_init_12 (f_QR_10 rfl) tb_QR rfl rfl rfl (by omega) x_o_p (Nat.le_of_ble_eq_true rfl) rfl rfl ?_
  refine x_cong (h' := (x_o 0 (.inr (0, [.ref 1, .null, .null, .null, .null])) 0 (x_t 0) h)) (fun k hk => congrFun x_o_up k) ?_
  refine x_aload_n d_QR_init_15 rfl rfl ?_
  refine x_newO (ci := 2) (fs := [.null, .null, .int 0, .int 0, .int 0, .int 0, .int 0, .int 0, .int 0]) d_QR_init_16 rfl wu_LX tb_LX w_53 w_54 w_3 (fr_LX G) (by unfold x_N; omega) (Nat.le_of_ble_eq_true rfl) (Nat.le_of_ble_eq_true rfl) ?_
  refine x_dup d_QR_init_19 rfl ?_
  refine x_aload_n d_QR_init_20 rfl rfl ?_
  refine x_getf d_QR_init_21 (f_QR_10 rfl) (by omega) ((va_up_ne _ _ (by decide)).trans x_o_p) rfl ?_
  refine x_iniI (M2 := M_LX_init) (As := [.ref 1]) (st := [.ref 3, .ref 0]) (e := 4) d_QR_init_24 (c_LX_init (by rw [va_up_self])) ki_LX_init w_55 (by omega) (by omega) ⟨(Nat.le_of_ble_eq_true rfl), (Nat.le_of_ble_eq_true rfl)⟩ (Nat.le_of_ble_eq_true rfl) (Nat.le_of_ble_eq_true rfl) (Nat.le_of_ble_eq_true rfl) (Nat.le_of_ble_eq_true rfl) rfl ?_
  refine x_putF d_QR_init_27 (f_QR_21 rfl) tb_QR rfl rfl rfl (by omega) x_o_p (Nat.le_of_ble_eq_true rfl) rfl rfl ?_
  refine x_cong (h' := (x_o 0 (.inr (0, [.ref 1, .ref 3, .null, .null, .null])) 0 (x_t 0) h)) (fun k hk => congrFun x_o_up k) ?_
  refine x_aload_n d_QR_init_30 rfl rfl ?_
  refine x_newO (ci := 3) (fs := [.null, .null, .int 0, .int 0, .int 0]) d_QR_init_31 rfl wu_CT tb_CT w_101 w_102 w_6 (fr_CT G) (by unfold x_N; omega) (Nat.le_of_ble_eq_true rfl) (Nat.le_of_ble_eq_true rfl) ?_
  refine x_dup d_QR_init_34 rfl ?_
  refine x_iniI (M2 := M_CT_init) (As := []) (st := [.ref 4, .ref 0]) (e := 113) d_QR_init_35 (c_CT_init (by rw [va_up_self])) ki_CT_init w_103 (by omega) (by omega) ⟨(Nat.le_of_ble_eq_true rfl), (Nat.le_of_ble_eq_true rfl)⟩ (Nat.le_of_ble_eq_true rfl) (Nat.le_of_ble_eq_true rfl) (Nat.le_of_ble_eq_true rfl) (Nat.le_of_ble_eq_true rfl) rfl ?_
  refine x_putF d_QR_init_38 (f_QR_28 rfl) tb_QR rfl rfl rfl (by omega) x_o_p (Nat.le_of_ble_eq_true rfl) rfl rfl ?_
  refine x_cong (h' := (x_o 0 (.inr (0, [.ref 1, .ref 3, .ref 4, .null, .null])) 0 (x_t 0) h)) (fun k hk => congrFun x_o_up k) ?_
  refine x_aload_n d_QR_init_41 rfl rfl ?_
  refine x_newO (ci := 6) (fs := [.null, .null, .null]) d_QR_init_42 rfl wu_CG tb_CG w_192 w_193 w_9 (fr_CG G) (by unfold x_N; omega) (Nat.le_of_ble_eq_true rfl) (Nat.le_of_ble_eq_true rfl) ?_
  refine x_dup d_QR_init_45 rfl ?_
  refine x_aload_n d_QR_init_46 rfl rfl ?_
  refine x_getf d_QR_init_47 (f_QR_21 rfl) (by omega) ((va_up_ne _ _ (by decide)).trans x_o_p) rfl ?_
  refine x_aload_n d_QR_init_50 rfl rfl ?_
  refine x_getf d_QR_init_51 (f_QR_28 rfl) (by omega) ((va_up_ne _ _ (by decide)).trans x_o_p) rfl ?_
  refine x_iniI (M2 := M_CG_init) (As := [.ref 3, .ref 4]) (st := [.ref 113, .ref 0]) (e := 114) d_QR_init_54 (c_CG_init (by rw [va_up_self]) (by rw [va_up_ne _ _ (by decide)]; exact x_o_hi (by omega) (by omega))) ki_CG_init w_194 (by omega) (by omega) ⟨(Nat.le_of_ble_eq_true rfl), (Nat.le_of_ble_eq_true rfl)⟩ (Nat.le_of_ble_eq_true rfl) (Nat.le_of_ble_eq_true rfl) (Nat.le_of_ble_eq_true rfl) (Nat.le_of_ble_eq_true rfl) rfl ?_
  refine x_putF d_QR_init_57 (f_QR_37 rfl) tb_QR rfl rfl rfl (by omega) x_o_p (Nat.le_of_ble_eq_true rfl) rfl rfl ?_
  refine x_cong (h' := (x_o 0 (.inr (0, [.ref 1, .ref 3, .ref 4, .ref 113, .null])) 0 (x_t 0) h)) (fun k hk => congrFun x_o_up k) ?_
  refine x_aload_n d_QR_init_60 rfl rfl ?_
  refine x_newO (ci := 7) (fs := [.null, .null, .null, .null, .null]) d_QR_init_61 rfl wu_QG tb_QG w_208 w_209 w_10 (fr_QG G) (by unfold x_N; omega) (Nat.le_of_ble_eq_true rfl) (Nat.le_of_ble_eq_true rfl) ?_
  refine x_dup d_QR_init_64 rfl ?_
  refine x_aload_n d_QR_init_65 rfl rfl ?_
  refine x_getf d_QR_init_66 (f_QR_21 rfl) (by omega) ((va_up_ne _ _ (by decide)).trans x_o_p) rfl ?_
  refine x_aload_n d_QR_init_69 rfl rfl ?_
  refine x_getf d_QR_init_70 (f_QR_28 rfl) (by omega) ((va_up_ne _ _ (by decide)).trans x_o_p) rfl ?_
  refine x_iniI (M2 := M_QG_init) (As := [.ref 3, .ref 4]) (st := [.ref 114, .ref 0]) (e := 387) d_QR_init_73 (c_QG_init (by rw [va_up_self]) (by rw [va_up_ne _ _ (by decide)]; exact x_o_hi (by omega) (by omega))) ki_QG_init w_210 (by omega) (by omega) ⟨(Nat.le_of_ble_eq_true rfl), (Nat.le_of_ble_eq_true rfl)⟩ (Nat.le_of_ble_eq_true rfl) (Nat.le_of_ble_eq_true rfl) (Nat.le_of_ble_eq_true rfl) (Nat.le_of_ble_eq_true rfl) rfl ?_
  refine x_putF d_QR_init_76 (f_QR_44 rfl) tb_QR rfl rfl rfl (by omega) x_o_p (Nat.le_of_ble_eq_true rfl) rfl rfl ?_
  refine x_cong (h' := (x_o 0 (.inr (0, [.ref 1, .ref 3, .ref 4, .ref 113, .ref 114])) 0 (x_t 0) h)) (fun k hk => congrFun x_o_up k) ?_
  exact x_vret d_QR_init_79 rfl (Nat.le_of_ble_eq_true rfl) (Nat.le_of_ble_eq_true rfl) ⟨rfl, rfl, fun k hk => x_o_end (tf_QR).symm rfl (Nat.le_refl _)⟩
theorem tf_MQ {p : Nat} (hp : x_MQ p) : x_t p = .inr (12, [.int 0, .ref (p + 1), .ref (p + 2), .ref (p + 3), .int 0, .ref (p + 4), .int 0, .ref (p + 5), .ref (p + 6), .int 0, .ref (p + 7), .int 0, .ref (p + 8), .int 0, .ref (p + 9), .ref (p + 10), .ref (p + 11), .ref (p + 12), .ref (p + 13)]) := by rcases hp with rfl | rfl <;> rfl
theorem c_MQ_init {G : x_G} {h : x_h} {p e : Nat} (hp : x_MQ p) (he : e = p + 14) (h0 : h p = .inr (12, [.int 0, .null, .null, .null, .int 0, .null, .int 0, .null, .null, .int 0, .null, .int 0, .null, .int 0, .null, .null, .null, .null, .null])) : x_R G M_MQ_init (x_rc 1 13 5368) true [.ref p] (p + 1) h (x_ctr p (e) h) := by
  subst he
  have hbd := x_MQ_b hp
  show x_W G M_MQ_init (x_rc 1 13 5368) (x_Q G (x_rc 1 13 5368) true (x_ctr p (p + 14) h)) true (p + 1) h 0 0 [(0, .ref p)] [] 0
  refine x_cong (h' := (x_o p (.inr (12, [.int 0, .null, .null, .null, .int 0, .null, .int 0, .null, .null, .int 0, .null, .int 0, .null, .int 0, .null, .null, .null, .null, .null])) p (x_t p) h)) (fun k hk => x_o_0 h0 (by omega) hk) ?_
  refine x_aload_n d_MQ_init_0 rfl rfl ?_
  refine x_objI d_MQ_init_1 w_1066 (Nat.le_of_ble_eq_true rfl) (Nat.le_of_ble_eq_true rfl) (Nat.le_of_ble_eq_true rfl) ?_
  refine x_aload_n d_MQ_init_4 rfl rfl ?_
  refine x_bipush (v := 24) d_MQ_init_5 (by decide) ?_
  refine x_newA (t := 0) (N := 24) (a0 := (24, .inl (fun _ => 0))) d_MQ_init_7 rfl w_120 (by decide +kernel) (by decide +kernel) (by decide +kernel) (fun _ => rfl) (by unfold x_N; omega) (Nat.le_of_ble_eq_true rfl) (Nat.le_of_ble_eq_true rfl) ?_
  refine x_cong (h' := (x_o p (.inr (12, [.int 0, .null, .null, .null, .int 0, .null, .int 0, .null, .null, .int 0, .null, .int 0, .null, .int 0, .null, .null, .null, .null, .null])) p (x_t p) h)) (fun k hk => congrFun (x_o_un (by omega) (by omega) (x_tz (sa_MQ_kind hp) (by have hb_ := x_MQ_b hp; omega))) k) ?_
  refine x_putF d_MQ_init_9 (f_MQ_7 rfl) tb_MQ rfl rfl rfl (by omega) x_o_p (Nat.le_of_ble_eq_true rfl) rfl rfl ?_
  refine x_cong (h' := (x_o p (.inr (12, [.int 0, .ref (p + 1), .null, .null, .int 0, .null, .int 0, .null, .null, .int 0, .null, .int 0, .null, .int 0, .null, .null, .null, .null, .null])) p (x_t p) h)) (fun k hk => congrFun x_o_up k) ?_
  refine x_aload_n d_MQ_init_12 rfl rfl ?_
  refine x_bipush (v := 24) d_MQ_init_13 (by decide) ?_
  refine x_newA (t := 0) (N := 24) (a0 := (24, .inl (fun _ => 0))) d_MQ_init_15 rfl w_120 (by decide +kernel) (by decide +kernel) (by decide +kernel) (fun _ => rfl) (by unfold x_N; omega) (Nat.le_of_ble_eq_true rfl) (Nat.le_of_ble_eq_true rfl) ?_
  refine x_cong (h' := (x_o p (.inr (12, [.int 0, .ref (p + 1), .null, .null, .int 0, .null, .int 0, .null, .null, .int 0, .null, .int 0, .null, .int 0, .null, .null, .null, .null, .null])) p (x_t p) h)) (fun k hk => congrFun (x_o_un (by omega) (by omega) (x_tz (sa_MQ_of hp) (by have hb_ := x_MQ_b hp; omega))) k) ?_
  refine x_putF d_MQ_init_17 (f_MQ_13 rfl) tb_MQ rfl rfl rfl (by omega) x_o_p (Nat.le_of_ble_eq_true rfl) rfl rfl ?_
  refine x_cong (h' := (x_o p (.inr (12, [.int 0, .ref (p + 1), .ref (p + 2), .null, .int 0, .null, .int 0, .null, .null, .int 0, .null, .int 0, .null, .int 0, .null, .null, .null, .null, .null])) p (x_t p) h)) (fun k hk => congrFun x_o_up k) ?_
  refine x_aload_n d_MQ_init_20 rfl rfl ?_
  refine x_bipush (v := 24) d_MQ_init_21 (by decide) ?_
  refine x_newA (t := 0) (N := 24) (a0 := (24, .inl (fun _ => 0))) d_MQ_init_23 rfl w_120 (by decide +kernel) (by decide +kernel) (by decide +kernel) (fun _ => rfl) (by unfold x_N; omega) (Nat.le_of_ble_eq_true rfl) (Nat.le_of_ble_eq_true rfl) ?_
  refine x_cong (h' := (x_o p (.inr (12, [.int 0, .ref (p + 1), .ref (p + 2), .null, .int 0, .null, .int 0, .null, .null, .int 0, .null, .int 0, .null, .int 0, .null, .null, .null, .null, .null])) p (x_t p) h)) (fun k hk => congrFun (x_o_un (by omega) (by omega) (x_tz (sa_MQ_begins hp) (by have hb_ := x_MQ_b hp; omega))) k) ?_
  refine x_putF d_MQ_init_25 (f_MQ_16 rfl) tb_MQ rfl rfl rfl (by omega) x_o_p (Nat.le_of_ble_eq_true rfl) rfl rfl ?_
  refine x_cong (h' := (x_o p (.inr (12, [.int 0, .ref (p + 1), .ref (p + 2), .ref (p + 3), .int 0, .null, .int 0, .null, .null, .int 0, .null, .int 0, .null, .int 0, .null, .null, .null, .null, .null])) p (x_t p) h)) (fun k hk => congrFun x_o_up k) ?_
  refine x_aload_n d_MQ_init_28 rfl rfl ?_
  refine x_bipush (v := 8) d_MQ_init_29 (by decide) ?_
  refine x_newA (t := 0) (N := 8) (a0 := (8, .inl (fun _ => 0))) d_MQ_init_31 rfl w_120 (by decide +kernel) (by decide +kernel) (by decide +kernel) (fun _ => rfl) (by unfold x_N; omega) (Nat.le_of_ble_eq_true rfl) (Nat.le_of_ble_eq_true rfl) ?_
  refine x_cong (h' := (x_o p (.inr (12, [.int 0, .ref (p + 1), .ref (p + 2), .ref (p + 3), .int 0, .null, .int 0, .null, .null, .int 0, .null, .int 0, .null, .int 0, .null, .null, .null, .null, .null])) p (x_t p) h)) (fun k hk => congrFun (x_o_un (by omega) (by omega) (x_tz (sa_MQ_group hp) (by have hb_ := x_MQ_b hp; omega))) k) ?_
  refine x_putF d_MQ_init_33 (f_MQ_19 rfl) tb_MQ rfl rfl rfl (by omega) x_o_p (Nat.le_of_ble_eq_true rfl) rfl rfl ?_
  refine x_cong (h' := (x_o p (.inr (12, [.int 0, .ref (p + 1), .ref (p + 2), .ref (p + 3), .int 0, .ref (p + 4), .int 0, .null, .null, .int 0, .null, .int 0, .null, .int 0, .null, .null, .null, .null, .null])) p (x_t p) h)) (fun k hk => congrFun x_o_up k) ?_
  refine x_aload_n d_MQ_init_36 rfl rfl ?_
  refine x_bipush (v := 8) d_MQ_init_37 (by decide) ?_
  refine x_newA (t := 0) (N := 8) (a0 := (8, .inl (fun _ => 0))) d_MQ_init_39 rfl w_120 (by decide +kernel) (by decide +kernel) (by decide +kernel) (fun _ => rfl) (by unfold x_N; omega) (Nat.le_of_ble_eq_true rfl) (Nat.le_of_ble_eq_true rfl) ?_
  refine x_cong (h' := (x_o p (.inr (12, [.int 0, .ref (p + 1), .ref (p + 2), .ref (p + 3), .int 0, .ref (p + 4), .int 0, .null, .null, .int 0, .null, .int 0, .null, .int 0, .null, .null, .null, .null, .null])) p (x_t p) h)) (fun k hk => congrFun (x_o_un (by omega) (by omega) (x_tz (sa_MQ_partKind hp) (by have hb_ := x_MQ_b hp; omega))) k) ?_
  refine x_putF d_MQ_init_41 (f_MQ_22 rfl) tb_MQ rfl rfl rfl (by omega) x_o_p (Nat.le_of_ble_eq_true rfl) rfl rfl ?_
  refine x_cong (h' := (x_o p (.inr (12, [.int 0, .ref (p + 1), .ref (p + 2), .ref (p + 3), .int 0, .ref (p + 4), .int 0, .ref (p + 5), .null, .int 0, .null, .int 0, .null, .int 0, .null, .null, .null, .null, .null])) p (x_t p) h)) (fun k hk => congrFun x_o_up k) ?_
  refine x_aload_n d_MQ_init_44 rfl rfl ?_
  refine x_bipush (v := 8) d_MQ_init_45 (by decide) ?_
  refine x_newA (t := 0) (N := 8) (a0 := (8, .inl (fun _ => 0))) d_MQ_init_47 rfl w_120 (by decide +kernel) (by decide +kernel) (by decide +kernel) (fun _ => rfl) (by unfold x_N; omega) (Nat.le_of_ble_eq_true rfl) (Nat.le_of_ble_eq_true rfl) ?_
  refine x_cong (h' := (x_o p (.inr (12, [.int 0, .ref (p + 1), .ref (p + 2), .ref (p + 3), .int 0, .ref (p + 4), .int 0, .ref (p + 5), .null, .int 0, .null, .int 0, .null, .int 0, .null, .null, .null, .null, .null])) p (x_t p) h)) (fun k hk => congrFun (x_o_un (by omega) (by omega) (x_tz (sa_MQ_partSize hp) (by have hb_ := x_MQ_b hp; omega))) k) ?_
  refine x_putF d_MQ_init_49 (f_MQ_25 rfl) tb_MQ rfl rfl rfl (by omega) x_o_p (Nat.le_of_ble_eq_true rfl) rfl rfl ?_
  refine x_cong (h' := (x_o p (.inr (12, [.int 0, .ref (p + 1), .ref (p + 2), .ref (p + 3), .int 0, .ref (p + 4), .int 0, .ref (p + 5), .ref (p + 6), .int 0, .null, .int 0, .null, .int 0, .null, .null, .null, .null, .null])) p (x_t p) h)) (fun k hk => congrFun x_o_up k) ?_
  refine x_aload_n d_MQ_init_52 rfl rfl ?_
  refine x_bipush (v := 32) d_MQ_init_53 (by decide) ?_
  refine x_newA (t := 0) (N := 32) (a0 := (32, .inl (fun _ => 0))) d_MQ_init_55 rfl w_120 (by decide +kernel) (by decide +kernel) (by decide +kernel) (fun _ => rfl) (by unfold x_N; omega) (Nat.le_of_ble_eq_true rfl) (Nat.le_of_ble_eq_true rfl) ?_
  refine x_cong (h' := (x_o p (.inr (12, [.int 0, .ref (p + 1), .ref (p + 2), .ref (p + 3), .int 0, .ref (p + 4), .int 0, .ref (p + 5), .ref (p + 6), .int 0, .null, .int 0, .null, .int 0, .null, .null, .null, .null, .null])) p (x_t p) h)) (fun k hk => congrFun (x_o_un (by omega) (by omega) (x_tz (sa_MQ_set hp) (by have hb_ := x_MQ_b hp; omega))) k) ?_
  refine x_putF d_MQ_init_57 (f_MQ_28 rfl) tb_MQ rfl rfl rfl (by omega) x_o_p (Nat.le_of_ble_eq_true rfl) rfl rfl ?_
  refine x_cong (h' := (x_o p (.inr (12, [.int 0, .ref (p + 1), .ref (p + 2), .ref (p + 3), .int 0, .ref (p + 4), .int 0, .ref (p + 5), .ref (p + 6), .int 0, .ref (p + 7), .int 0, .null, .int 0, .null, .null, .null, .null, .null])) p (x_t p) h)) (fun k hk => congrFun x_o_up k) ?_
  refine x_aload_n d_MQ_init_60 rfl rfl ?_
  refine x_sipush (v := 2600) d_MQ_init_61 (by decide) ?_
  refine x_newA (t := 0) (N := 2600) (a0 := (2600, .inl (fun _ => 0))) d_MQ_init_64 rfl w_120 (by decide +kernel) (by decide +kernel) (by decide +kernel) (fun _ => rfl) (by unfold x_N; omega) (Nat.le_of_ble_eq_true rfl) (Nat.le_of_ble_eq_true rfl) ?_
  refine x_cong (h' := (x_o p (.inr (12, [.int 0, .ref (p + 1), .ref (p + 2), .ref (p + 3), .int 0, .ref (p + 4), .int 0, .ref (p + 5), .ref (p + 6), .int 0, .ref (p + 7), .int 0, .null, .int 0, .null, .null, .null, .null, .null])) p (x_t p) h)) (fun k hk => congrFun (x_o_un (by omega) (by omega) (x_tz (sa_MQ_sign hp) (by have hb_ := x_MQ_b hp; omega))) k) ?_
  refine x_putF d_MQ_init_66 (f_MQ_31 rfl) tb_MQ rfl rfl rfl (by omega) x_o_p (Nat.le_of_ble_eq_true rfl) rfl rfl ?_
  refine x_cong (h' := (x_o p (.inr (12, [.int 0, .ref (p + 1), .ref (p + 2), .ref (p + 3), .int 0, .ref (p + 4), .int 0, .ref (p + 5), .ref (p + 6), .int 0, .ref (p + 7), .int 0, .ref (p + 8), .int 0, .null, .null, .null, .null, .null])) p (x_t p) h)) (fun k hk => congrFun x_o_up k) ?_
  refine x_aload_n d_MQ_init_69 rfl rfl ?_
  refine x_bipush (v := 60) d_MQ_init_70 (by decide) ?_
  refine x_newA (t := 0) (N := 60) (a0 := (60, .inl (fun _ => 0))) d_MQ_init_72 rfl w_120 (by decide +kernel) (by decide +kernel) (by decide +kernel) (fun _ => rfl) (by unfold x_N; omega) (Nat.le_of_ble_eq_true rfl) (Nat.le_of_ble_eq_true rfl) ?_
  refine x_cong (h' := (x_o p (.inr (12, [.int 0, .ref (p + 1), .ref (p + 2), .ref (p + 3), .int 0, .ref (p + 4), .int 0, .ref (p + 5), .ref (p + 6), .int 0, .ref (p + 7), .int 0, .ref (p + 8), .int 0, .null, .null, .null, .null, .null])) p (x_t p) h)) (fun k hk => congrFun (x_o_un (by omega) (by omega) (x_tz (sa_MQ_column hp) (by have hb_ := x_MQ_b hp; omega))) k) ?_
  refine x_putF d_MQ_init_74 (f_MQ_34 rfl) tb_MQ rfl rfl rfl (by omega) x_o_p (Nat.le_of_ble_eq_true rfl) rfl rfl ?_
  refine x_cong (h' := (x_o p (.inr (12, [.int 0, .ref (p + 1), .ref (p + 2), .ref (p + 3), .int 0, .ref (p + 4), .int 0, .ref (p + 5), .ref (p + 6), .int 0, .ref (p + 7), .int 0, .ref (p + 8), .int 0, .ref (p + 9), .null, .null, .null, .null])) p (x_t p) h)) (fun k hk => congrFun x_o_up k) ?_
  refine x_aload_n d_MQ_init_77 rfl rfl ?_
  refine x_bipush (v := 60) d_MQ_init_78 (by decide) ?_
  refine x_newA (t := 0) (N := 60) (a0 := (60, .inl (fun _ => 0))) d_MQ_init_80 rfl w_120 (by decide +kernel) (by decide +kernel) (by decide +kernel) (fun _ => rfl) (by unfold x_N; omega) (Nat.le_of_ble_eq_true rfl) (Nat.le_of_ble_eq_true rfl) ?_
  refine x_cong (h' := (x_o p (.inr (12, [.int 0, .ref (p + 1), .ref (p + 2), .ref (p + 3), .int 0, .ref (p + 4), .int 0, .ref (p + 5), .ref (p + 6), .int 0, .ref (p + 7), .int 0, .ref (p + 8), .int 0, .ref (p + 9), .null, .null, .null, .null])) p (x_t p) h)) (fun k hk => congrFun (x_o_un (by omega) (by omega) (x_tz (sa_MQ_how hp) (by have hb_ := x_MQ_b hp; omega))) k) ?_
  refine x_putF d_MQ_init_82 (f_MQ_37 rfl) tb_MQ rfl rfl rfl (by omega) x_o_p (Nat.le_of_ble_eq_true rfl) rfl rfl ?_
  refine x_cong (h' := (x_o p (.inr (12, [.int 0, .ref (p + 1), .ref (p + 2), .ref (p + 3), .int 0, .ref (p + 4), .int 0, .ref (p + 5), .ref (p + 6), .int 0, .ref (p + 7), .int 0, .ref (p + 8), .int 0, .ref (p + 9), .ref (p + 10), .null, .null, .null])) p (x_t p) h)) (fun k hk => congrFun x_o_up k) ?_
  refine x_aload_n d_MQ_init_85 rfl rfl ?_
  refine x_bipush (v := 60) d_MQ_init_86 (by decide) ?_
  refine x_newA (t := 0) (N := 60) (a0 := (60, .inl (fun _ => 0))) d_MQ_init_88 rfl w_120 (by decide +kernel) (by decide +kernel) (by decide +kernel) (fun _ => rfl) (by unfold x_N; omega) (Nat.le_of_ble_eq_true rfl) (Nat.le_of_ble_eq_true rfl) ?_
  refine x_cong (h' := (x_o p (.inr (12, [.int 0, .ref (p + 1), .ref (p + 2), .ref (p + 3), .int 0, .ref (p + 4), .int 0, .ref (p + 5), .ref (p + 6), .int 0, .ref (p + 7), .int 0, .ref (p + 8), .int 0, .ref (p + 9), .ref (p + 10), .null, .null, .null])) p (x_t p) h)) (fun k hk => congrFun (x_o_un (by omega) (by omega) (x_tz (sa_MQ_first hp) (by have hb_ := x_MQ_b hp; omega))) k) ?_
  refine x_putF d_MQ_init_90 (f_MQ_40 rfl) tb_MQ rfl rfl rfl (by omega) x_o_p (Nat.le_of_ble_eq_true rfl) rfl rfl ?_
  refine x_cong (h' := (x_o p (.inr (12, [.int 0, .ref (p + 1), .ref (p + 2), .ref (p + 3), .int 0, .ref (p + 4), .int 0, .ref (p + 5), .ref (p + 6), .int 0, .ref (p + 7), .int 0, .ref (p + 8), .int 0, .ref (p + 9), .ref (p + 10), .ref (p + 11), .null, .null])) p (x_t p) h)) (fun k hk => congrFun x_o_up k) ?_
  refine x_aload_n d_MQ_init_93 rfl rfl ?_
  refine x_bipush (v := 60) d_MQ_init_94 (by decide) ?_
  refine x_newA (t := 0) (N := 60) (a0 := (60, .inl (fun _ => 0))) d_MQ_init_96 rfl w_120 (by decide +kernel) (by decide +kernel) (by decide +kernel) (fun _ => rfl) (by unfold x_N; omega) (Nat.le_of_ble_eq_true rfl) (Nat.le_of_ble_eq_true rfl) ?_
  refine x_cong (h' := (x_o p (.inr (12, [.int 0, .ref (p + 1), .ref (p + 2), .ref (p + 3), .int 0, .ref (p + 4), .int 0, .ref (p + 5), .ref (p + 6), .int 0, .ref (p + 7), .int 0, .ref (p + 8), .int 0, .ref (p + 9), .ref (p + 10), .ref (p + 11), .null, .null])) p (x_t p) h)) (fun k hk => congrFun (x_o_un (by omega) (by omega) (x_tz (sa_MQ_second hp) (by have hb_ := x_MQ_b hp; omega))) k) ?_
  refine x_putF d_MQ_init_98 (f_MQ_43 rfl) tb_MQ rfl rfl rfl (by omega) x_o_p (Nat.le_of_ble_eq_true rfl) rfl rfl ?_
  refine x_cong (h' := (x_o p (.inr (12, [.int 0, .ref (p + 1), .ref (p + 2), .ref (p + 3), .int 0, .ref (p + 4), .int 0, .ref (p + 5), .ref (p + 6), .int 0, .ref (p + 7), .int 0, .ref (p + 8), .int 0, .ref (p + 9), .ref (p + 10), .ref (p + 11), .ref (p + 12), .null])) p (x_t p) h)) (fun k hk => congrFun x_o_up k) ?_
  refine x_aload_n d_MQ_init_101 rfl rfl ?_
  refine x_sipush (v := 2400) d_MQ_init_102 (by decide) ?_
  refine x_newA (t := 0) (N := 2400) (a0 := (2400, .inl (fun _ => 0))) d_MQ_init_105 rfl w_120 (by decide +kernel) (by decide +kernel) (by decide +kernel) (fun _ => rfl) (by unfold x_N; omega) (Nat.le_of_ble_eq_true rfl) (Nat.le_of_ble_eq_true rfl) ?_
  refine x_cong (h' := (x_o p (.inr (12, [.int 0, .ref (p + 1), .ref (p + 2), .ref (p + 3), .int 0, .ref (p + 4), .int 0, .ref (p + 5), .ref (p + 6), .int 0, .ref (p + 7), .int 0, .ref (p + 8), .int 0, .ref (p + 9), .ref (p + 10), .ref (p + 11), .ref (p + 12), .null])) p (x_t p) h)) (fun k hk => congrFun (x_o_un (by omega) (by omega) (x_tz (sa_MQ_list hp) (by have hb_ := x_MQ_b hp; omega))) k) ?_
  refine x_putF d_MQ_init_107 (f_MQ_46 rfl) tb_MQ rfl rfl rfl (by omega) x_o_p (Nat.le_of_ble_eq_true rfl) rfl rfl ?_
  refine x_cong (h' := (x_o p (.inr (12, [.int 0, .ref (p + 1), .ref (p + 2), .ref (p + 3), .int 0, .ref (p + 4), .int 0, .ref (p + 5), .ref (p + 6), .int 0, .ref (p + 7), .int 0, .ref (p + 8), .int 0, .ref (p + 9), .ref (p + 10), .ref (p + 11), .ref (p + 12), .ref (p + 13)])) p (x_t p) h)) (fun k hk => congrFun x_o_up k) ?_
  exact x_vret d_MQ_init_110 rfl (Nat.le_of_ble_eq_true rfl) (Nat.le_of_ble_eq_true rfl) ⟨rfl, rfl, fun k hk => x_o_end (tf_MQ hp).symm rfl (Nat.le_refl _)⟩
theorem tf_MD : x_t 387 = .inr (11, [.ref (x_N + 37), .int 0, .int 0, .ref 388, .int 0, .int 0, .int (-1), .int 0, .int 0, .int 0, .int 0, .int 0, .int 0, .int 0, .ref 389, .ref 390, .ref 391, .ref 392, .int 0, .ref 393, .ref 394, .ref 395, .ref 409, .int 0, .int 0, .int 0, .ref 423]) := rfl
theorem c_MD_init {G : x_G} {h : x_h} (h0 : h 387 = .inr (11, [.null, .int 0, .int 0, .null, .int 0, .int 0, .int 0, .int 0, .int 0, .int 0, .int 0, .int 0, .int 0, .int 0, .null, .null, .null, .null, .int 0, .null, .null, .null, .null, .int 0, .int 0, .int 0, .null])) : x_R G M_MD_init (x_rc 2 36 110366) true [.ref 387] (388) h (x_ctr 387 (424) h) := by
  show x_W G M_MD_init (x_rc 2 36 110366) (x_Q G (x_rc 2 36 110366) true (x_ctr 387 (424) h)) true (388) h 0 0 [(0, .ref 387)] [] 0
  refine x_cong (h' := (x_o 387 (.inr (11, [.null, .int 0, .int 0, .null, .int 0, .int 0, .int 0, .int 0, .int 0, .int 0, .int 0, .int 0, .int 0, .int 0, .null, .null, .null, .null, .int 0, .null, .null, .null, .null, .int 0, .int 0, .int 0, .null])) 387 (x_t 387) h)) (fun k hk => x_o_0 h0 (by omega) hk) ?_
  refine x_aload_n d_MD_init_0 rfl rfl ?_
  refine x_objI d_MD_init_1 w_1058 (Nat.le_of_ble_eq_true rfl) (Nat.le_of_ble_eq_true rfl) (Nat.le_of_ble_eq_true rfl) ?_
  refine x_aload_n d_MD_init_4 rfl rfl ?_
  refine x_ldcT d_MD_init_5 rfl ?_
  refine x_putF d_MD_init_7 (f_MD_9 rfl) tb_MD rfl rfl rfl (by omega) x_o_p (Nat.le_of_ble_eq_true rfl) rfl rfl ?_
  refine x_cong (h' := (x_o 387 (.inr (11, [.ref (x_N + 37), .int 0, .int 0, .null, .int 0, .int 0, .int 0, .int 0, .int 0, .int 0, .int 0, .int 0, .int 0, .int 0, .null, .null, .null, .null, .int 0, .null, .null, .null, .null, .int 0, .int 0, .int 0, .null])) 387 (x_t 387) h)) (fun k hk => congrFun x_o_up k) ?_
  refine x_aload_n d_MD_init_10 rfl rfl ?_
  refine x_ldc (v := 65536) d_MD_init_11 w_1060 ?_
  refine x_newA (t := 1) (N := 65536) (a0 := (65536, .inl (fun _ => 0))) d_MD_init_13 rfl w_52 (by decide +kernel) (by decide +kernel) (by decide +kernel) (fun _ => rfl) (by unfold x_N; omega) (Nat.le_of_ble_eq_true rfl) (Nat.le_of_ble_eq_true rfl) ?_
  refine x_cong (h' := (x_o 387 (.inr (11, [.ref (x_N + 37), .int 0, .int 0, .null, .int 0, .int 0, .int 0, .int 0, .int 0, .int 0, .int 0, .int 0, .int 0, .int 0, .null, .null, .null, .null, .int 0, .null, .null, .null, .null, .int 0, .int 0, .int 0, .null])) 387 (x_t 387) h)) (fun k hk => congrFun (x_o_un (by omega) (by omega) (x_tz sa_MD_text (by omega))) k) ?_
  refine x_putF d_MD_init_15 (f_MD_16 rfl) tb_MD rfl rfl rfl (by omega) x_o_p (Nat.le_of_ble_eq_true rfl) rfl rfl ?_
  refine x_cong (h' := (x_o 387 (.inr (11, [.ref (x_N + 37), .int 0, .int 0, .ref 388, .int 0, .int 0, .int 0, .int 0, .int 0, .int 0, .int 0, .int 0, .int 0, .int 0, .null, .null, .null, .null, .int 0, .null, .null, .null, .null, .int 0, .int 0, .int 0, .null])) 387 (x_t 387) h)) (fun k hk => congrFun x_o_up k) ?_
  refine x_aload_n d_MD_init_18 rfl rfl ?_
  refine x_iconst (v := (-1)) d_MD_init_19 (by decide) ?_
  refine x_putf d_MD_init_20 (f_MD_20 rfl) tb_MD rfl (by omega) x_o_p (Nat.le_of_ble_eq_true rfl) rfl rfl ?_
  refine x_cong (h' := (x_o 387 (.inr (11, [.ref (x_N + 37), .int 0, .int 0, .ref 388, .int 0, .int 0, .int (-1), .int 0, .int 0, .int 0, .int 0, .int 0, .int 0, .int 0, .null, .null, .null, .null, .int 0, .null, .null, .null, .null, .int 0, .int 0, .int 0, .null])) 387 (x_t 387) h)) (fun k hk => congrFun x_o_up k) ?_
  refine x_aload_n d_MD_init_23 rfl rfl ?_
  refine x_bipush (v := 8) d_MD_init_24 (by decide) ?_
  refine x_newA (t := 0) (N := 8) (a0 := (8, .inl (fun _ => 0))) d_MD_init_26 rfl w_120 (by decide +kernel) (by decide +kernel) (by decide +kernel) (fun _ => rfl) (by unfold x_N; omega) (Nat.le_of_ble_eq_true rfl) (Nat.le_of_ble_eq_true rfl) ?_
  refine x_cong (h' := (x_o 387 (.inr (11, [.ref (x_N + 37), .int 0, .int 0, .ref 388, .int 0, .int 0, .int (-1), .int 0, .int 0, .int 0, .int 0, .int 0, .int 0, .int 0, .null, .null, .null, .null, .int 0, .null, .null, .null, .null, .int 0, .int 0, .int 0, .null])) 387 (x_t 387) h)) (fun k hk => congrFun (x_o_un (by omega) (by omega) (x_tz sa_MD_levels (by omega))) k) ?_
  refine x_putF d_MD_init_28 (f_MD_24 rfl) tb_MD rfl rfl rfl (by omega) x_o_p (Nat.le_of_ble_eq_true rfl) rfl rfl ?_
  refine x_cong (h' := (x_o 387 (.inr (11, [.ref (x_N + 37), .int 0, .int 0, .ref 388, .int 0, .int 0, .int (-1), .int 0, .int 0, .int 0, .int 0, .int 0, .int 0, .int 0, .ref 389, .null, .null, .null, .int 0, .null, .null, .null, .null, .int 0, .int 0, .int 0, .null])) 387 (x_t 387) h)) (fun k hk => congrFun x_o_up k) ?_
  refine x_aload_n d_MD_init_31 rfl rfl ?_
  refine x_bipush (v := 8) d_MD_init_32 (by decide) ?_
  refine x_newA (t := 0) (N := 8) (a0 := (8, .inl (fun _ => 0))) d_MD_init_34 rfl w_120 (by decide +kernel) (by decide +kernel) (by decide +kernel) (fun _ => rfl) (by unfold x_N; omega) (Nat.le_of_ble_eq_true rfl) (Nat.le_of_ble_eq_true rfl) ?_
  refine x_cong (h' := (x_o 387 (.inr (11, [.ref (x_N + 37), .int 0, .int 0, .ref 388, .int 0, .int 0, .int (-1), .int 0, .int 0, .int 0, .int 0, .int 0, .int 0, .int 0, .ref 389, .null, .null, .null, .int 0, .null, .null, .null, .null, .int 0, .int 0, .int 0, .null])) 387 (x_t 387) h)) (fun k hk => congrFun (x_o_un (by omega) (by omega) (x_tz sa_MD_members (by omega))) k) ?_
  refine x_putF d_MD_init_36 (f_MD_28 rfl) tb_MD rfl rfl rfl (by omega) x_o_p (Nat.le_of_ble_eq_true rfl) rfl rfl ?_
  refine x_cong (h' := (x_o 387 (.inr (11, [.ref (x_N + 37), .int 0, .int 0, .ref 388, .int 0, .int 0, .int (-1), .int 0, .int 0, .int 0, .int 0, .int 0, .int 0, .int 0, .ref 389, .ref 390, .null, .null, .int 0, .null, .null, .null, .null, .int 0, .int 0, .int 0, .null])) 387 (x_t 387) h)) (fun k hk => congrFun x_o_up k) ?_
  refine x_aload_n d_MD_init_39 rfl rfl ?_
  refine x_sipush (v := 32000) d_MD_init_40 (by decide) ?_
  refine x_newA (t := 0) (N := 32000) (a0 := (32000, .inl (fun _ => 0))) d_MD_init_43 rfl w_120 (by decide +kernel) (by decide +kernel) (by decide +kernel) (fun _ => rfl) (by unfold x_N; omega) (Nat.le_of_ble_eq_true rfl) (Nat.le_of_ble_eq_true rfl) ?_
  refine x_cong (h' := (x_o 387 (.inr (11, [.ref (x_N + 37), .int 0, .int 0, .ref 388, .int 0, .int 0, .int (-1), .int 0, .int 0, .int 0, .int 0, .int 0, .int 0, .int 0, .ref 389, .ref 390, .null, .null, .int 0, .null, .null, .null, .null, .int 0, .int 0, .int 0, .null])) 387 (x_t 387) h)) (fun k hk => congrFun (x_o_un (by omega) (by omega) (x_tz sa_MD_values (by omega))) k) ?_
  refine x_putF d_MD_init_45 (f_MD_31 rfl) tb_MD rfl rfl rfl (by omega) x_o_p (Nat.le_of_ble_eq_true rfl) rfl rfl ?_
  refine x_cong (h' := (x_o 387 (.inr (11, [.ref (x_N + 37), .int 0, .int 0, .ref 388, .int 0, .int 0, .int (-1), .int 0, .int 0, .int 0, .int 0, .int 0, .int 0, .int 0, .ref 389, .ref 390, .ref 391, .null, .int 0, .null, .null, .null, .null, .int 0, .int 0, .int 0, .null])) 387 (x_t 387) h)) (fun k hk => congrFun x_o_up k) ?_
  refine x_aload_n d_MD_init_48 rfl rfl ?_
  refine x_bipush (v := 8) d_MD_init_49 (by decide) ?_
  refine x_newA (t := 0) (N := 8) (a0 := (8, .inl (fun _ => 0))) d_MD_init_51 rfl w_120 (by decide +kernel) (by decide +kernel) (by decide +kernel) (fun _ => rfl) (by unfold x_N; omega) (Nat.le_of_ble_eq_true rfl) (Nat.le_of_ble_eq_true rfl) ?_
  refine x_cong (h' := (x_o 387 (.inr (11, [.ref (x_N + 37), .int 0, .int 0, .ref 388, .int 0, .int 0, .int (-1), .int 0, .int 0, .int 0, .int 0, .int 0, .int 0, .int 0, .ref 389, .ref 390, .ref 391, .null, .int 0, .null, .null, .null, .null, .int 0, .int 0, .int 0, .null])) 387 (x_t 387) h)) (fun k hk => congrFun (x_o_un (by omega) (by omega) (x_tz sa_MD_picked (by omega))) k) ?_
  refine x_putF d_MD_init_53 (f_MD_34 rfl) tb_MD rfl rfl rfl (by omega) x_o_p (Nat.le_of_ble_eq_true rfl) rfl rfl ?_
  refine x_cong (h' := (x_o 387 (.inr (11, [.ref (x_N + 37), .int 0, .int 0, .ref 388, .int 0, .int 0, .int (-1), .int 0, .int 0, .int 0, .int 0, .int 0, .int 0, .int 0, .ref 389, .ref 390, .ref 391, .ref 392, .int 0, .null, .null, .null, .null, .int 0, .int 0, .int 0, .null])) 387 (x_t 387) h)) (fun k hk => congrFun x_o_up k) ?_
  refine x_aload_n d_MD_init_56 rfl rfl ?_
  refine x_sipush (v := 1920) d_MD_init_57 (by decide) ?_
  refine x_newA (t := 1) (N := 1920) (a0 := (1920, .inl (fun _ => 0))) d_MD_init_60 rfl w_52 (by decide +kernel) (by decide +kernel) (by decide +kernel) (fun _ => rfl) (by unfold x_N; omega) (Nat.le_of_ble_eq_true rfl) (Nat.le_of_ble_eq_true rfl) ?_
  refine x_cong (h' := (x_o 387 (.inr (11, [.ref (x_N + 37), .int 0, .int 0, .ref 388, .int 0, .int 0, .int (-1), .int 0, .int 0, .int 0, .int 0, .int 0, .int 0, .int 0, .ref 389, .ref 390, .ref 391, .ref 392, .int 0, .null, .null, .null, .null, .int 0, .int 0, .int 0, .null])) 387 (x_t 387) h)) (fun k hk => congrFun (x_o_un (by omega) (by omega) (x_tz sa_MD_letters (by omega))) k) ?_
  refine x_putF d_MD_init_62 (f_MD_37 rfl) tb_MD rfl rfl rfl (by omega) x_o_p (Nat.le_of_ble_eq_true rfl) rfl rfl ?_
  refine x_cong (h' := (x_o 387 (.inr (11, [.ref (x_N + 37), .int 0, .int 0, .ref 388, .int 0, .int 0, .int (-1), .int 0, .int 0, .int 0, .int 0, .int 0, .int 0, .int 0, .ref 389, .ref 390, .ref 391, .ref 392, .int 0, .ref 393, .null, .null, .null, .int 0, .int 0, .int 0, .null])) 387 (x_t 387) h)) (fun k hk => congrFun x_o_up k) ?_
  refine x_aload_n d_MD_init_65 rfl rfl ?_
  refine x_bipush (v := 48) d_MD_init_66 (by decide) ?_
  refine x_newA (t := 0) (N := 48) (a0 := (48, .inl (fun _ => 0))) d_MD_init_68 rfl w_120 (by decide +kernel) (by decide +kernel) (by decide +kernel) (fun _ => rfl) (by unfold x_N; omega) (Nat.le_of_ble_eq_true rfl) (Nat.le_of_ble_eq_true rfl) ?_
  refine x_cong (h' := (x_o 387 (.inr (11, [.ref (x_N + 37), .int 0, .int 0, .ref 388, .int 0, .int 0, .int (-1), .int 0, .int 0, .int 0, .int 0, .int 0, .int 0, .int 0, .ref 389, .ref 390, .ref 391, .ref 392, .int 0, .ref 393, .null, .null, .null, .int 0, .int 0, .int 0, .null])) 387 (x_t 387) h)) (fun k hk => congrFun (x_o_un (by omega) (by omega) (x_tz sa_MD_lengths (by omega))) k) ?_
  refine x_putF d_MD_init_70 (f_MD_40 rfl) tb_MD rfl rfl rfl (by omega) x_o_p (Nat.le_of_ble_eq_true rfl) rfl rfl ?_
  refine x_cong (h' := (x_o 387 (.inr (11, [.ref (x_N + 37), .int 0, .int 0, .ref 388, .int 0, .int 0, .int (-1), .int 0, .int 0, .int 0, .int 0, .int 0, .int 0, .int 0, .ref 389, .ref 390, .ref 391, .ref 392, .int 0, .ref 393, .ref 394, .null, .null, .int 0, .int 0, .int 0, .null])) 387 (x_t 387) h)) (fun k hk => congrFun x_o_up k) ?_
  refine x_aload_n d_MD_init_73 rfl rfl ?_
  refine x_newO (ci := 12) (fs := [.int 0, .null, .null, .null, .int 0, .null, .int 0, .null, .null, .int 0, .null, .int 0, .null, .int 0, .null, .null, .null, .null, .null]) d_MD_init_74 rfl wu_MQ tb_MQ w_1061 w_1062 w_15 (fr_MQ G) (by unfold x_N; omega) (Nat.le_of_ble_eq_true rfl) (Nat.le_of_ble_eq_true rfl) ?_
  refine x_dup d_MD_init_77 rfl ?_
  refine x_iniN (M2 := M_MQ_init) (As := []) (st := [.ref 395, .ref 387]) (e := 409) d_MD_init_78 (c_MQ_init (Or.inl rfl) (by omega) (by rw [va_up_self])) ki_MQ_init wl_1063 (by omega) (by omega) ⟨(Nat.le_of_ble_eq_true rfl), (Nat.le_of_ble_eq_true rfl)⟩ (Nat.le_of_ble_eq_true rfl) (Nat.le_of_ble_eq_true rfl) (Nat.le_of_ble_eq_true rfl) (Nat.le_of_ble_eq_true rfl) rfl ?_
  refine x_putf d_MD_init_81 (f_MD_46 rfl) tb_MD rfl (by omega) x_o_p (Nat.le_of_ble_eq_true rfl) rfl rfl ?_
  refine x_cong (h' := (x_o 387 (.inr (11, [.ref (x_N + 37), .int 0, .int 0, .ref 388, .int 0, .int 0, .int (-1), .int 0, .int 0, .int 0, .int 0, .int 0, .int 0, .int 0, .ref 389, .ref 390, .ref 391, .ref 392, .int 0, .ref 393, .ref 394, .ref 395, .null, .int 0, .int 0, .int 0, .null])) 387 (x_t 387) h)) (fun k hk => congrFun x_o_up k) ?_
  refine x_aload_n d_MD_init_84 rfl rfl ?_
  refine x_newO (ci := 12) (fs := [.int 0, .null, .null, .null, .int 0, .null, .int 0, .null, .null, .int 0, .null, .int 0, .null, .int 0, .null, .null, .null, .null, .null]) d_MD_init_85 rfl wu_MQ tb_MQ w_1061 w_1062 w_15 (fr_MQ G) (by unfold x_N; omega) (Nat.le_of_ble_eq_true rfl) (Nat.le_of_ble_eq_true rfl) ?_
  refine x_dup d_MD_init_88 rfl ?_
  refine x_iniN (M2 := M_MQ_init) (As := []) (st := [.ref 409, .ref 387]) (e := 423) d_MD_init_89 (c_MQ_init (Or.inr rfl) (by omega) (by rw [va_up_self])) ki_MQ_init wl_1063 (by omega) (by omega) ⟨(Nat.le_of_ble_eq_true rfl), (Nat.le_of_ble_eq_true rfl)⟩ (Nat.le_of_ble_eq_true rfl) (Nat.le_of_ble_eq_true rfl) (Nat.le_of_ble_eq_true rfl) (Nat.le_of_ble_eq_true rfl) rfl ?_
  refine x_putf d_MD_init_92 (f_MD_50 rfl) tb_MD rfl (by omega) x_o_p (Nat.le_of_ble_eq_true rfl) rfl rfl ?_
  refine x_cong (h' := (x_o 387 (.inr (11, [.ref (x_N + 37), .int 0, .int 0, .ref 388, .int 0, .int 0, .int (-1), .int 0, .int 0, .int 0, .int 0, .int 0, .int 0, .int 0, .ref 389, .ref 390, .ref 391, .ref 392, .int 0, .ref 393, .ref 394, .ref 395, .ref 409, .int 0, .int 0, .int 0, .null])) 387 (x_t 387) h)) (fun k hk => congrFun x_o_up k) ?_
  refine x_aload_n d_MD_init_95 rfl rfl ?_
  refine x_bipush (v := 64) d_MD_init_96 (by decide) ?_
  refine x_newA (t := 2) (N := 64) (a0 := (64, .inl (fun _ => 0))) d_MD_init_98 rfl w_254 (by decide +kernel) (by decide +kernel) (by decide +kernel) (fun _ => rfl) (by unfold x_N; omega) (Nat.le_of_ble_eq_true rfl) (Nat.le_of_ble_eq_true rfl) ?_
  refine x_cong (h' := (x_o 387 (.inr (11, [.ref (x_N + 37), .int 0, .int 0, .ref 388, .int 0, .int 0, .int (-1), .int 0, .int 0, .int 0, .int 0, .int 0, .int 0, .int 0, .ref 389, .ref 390, .ref 391, .ref 392, .int 0, .ref 393, .ref 394, .ref 395, .ref 409, .int 0, .int 0, .int 0, .null])) 387 (x_t 387) h)) (fun k hk => congrFun (x_o_un (by omega) (by omega) (x_tz sa_MD_pile (by omega))) k) ?_
  refine x_putF d_MD_init_100 (f_MD_53 rfl) tb_MD rfl rfl rfl (by omega) x_o_p (Nat.le_of_ble_eq_true rfl) rfl rfl ?_
  refine x_cong (h' := (x_o 387 (.inr (11, [.ref (x_N + 37), .int 0, .int 0, .ref 388, .int 0, .int 0, .int (-1), .int 0, .int 0, .int 0, .int 0, .int 0, .int 0, .int 0, .ref 389, .ref 390, .ref 391, .ref 392, .int 0, .ref 393, .ref 394, .ref 395, .ref 409, .int 0, .int 0, .int 0, .ref 423])) 387 (x_t 387) h)) (fun k hk => congrFun x_o_up k) ?_
  exact x_vret d_MD_init_103 rfl (Nat.le_of_ble_eq_true rfl) (Nat.le_of_ble_eq_true rfl) ⟨rfl, rfl, fun k hk => x_o_end (tf_MD).symm rfl (Nat.le_refl _)⟩
