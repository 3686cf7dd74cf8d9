def M_ST_length : x_M := (⟨"java/lang/String", "length", "()I"⟩, prog_21_method_54_code, 1, some (.int), [])
theorem d_ST_length_0 : decode M_ST_length.2.1 0 = .ok (.aload_n 0, 1) := by decide +kernel
theorem d_ST_length_1 : decode M_ST_length.2.1 1 = .ok (.getfield 9, 3) := by decide +kernel
theorem d_ST_length_4 : decode M_ST_length.2.1 4 = .ok (.arraylength, 1) := by decide +kernel
theorem d_ST_length_5 : decode M_ST_length.2.1 5 = .ok (.aload_n 0, 1) := by decide +kernel
theorem d_ST_length_6 : decode M_ST_length.2.1 6 = .ok (.invokevirtual 335, 3) := by decide +kernel
theorem d_ST_length_9 : decode M_ST_length.2.1 9 = .ok (.ishr, 1) := by decide +kernel
theorem d_ST_length_10 : decode M_ST_length.2.1 10 = .ok (.ireturn, 1) := by decide +kernel
theorem k_ST_length : x_kV M_ST_length "java/lang/String" 0 := ⟨⟨by decide, Or.inl ⟨w_1261, rfl⟩⟩, w_1259, w_1260, ⟨by decide, by decide⟩, by decide +kernel⟩
def M_ST_coder : x_M := (⟨"java/lang/String", "coder", "()B"⟩, prog_21_method_152_code, 1, some (.byte), [])
theorem d_ST_coder_0 : decode M_ST_coder.2.1 0 = .ok (.getstatic 38, 3) := by decide +kernel
theorem d_ST_coder_3 : decode M_ST_coder.2.1 3 = .ok (.ifCond .eq 10, 3) := by decide +kernel
theorem d_ST_coder_6 : decode M_ST_coder.2.1 6 = .ok (.aload_n 0, 1) := by decide +kernel
theorem d_ST_coder_7 : decode M_ST_coder.2.1 7 = .ok (.getfield 15, 3) := by decide +kernel
theorem d_ST_coder_10 : decode M_ST_coder.2.1 10 = .ok (.goto 4, 3) := by decide +kernel
theorem d_ST_coder_13 : decode M_ST_coder.2.1 13 = .ok (.iconst 1, 1) := by decide +kernel
theorem d_ST_coder_14 : decode M_ST_coder.2.1 14 = .ok (.ireturn, 1) := by decide +kernel
theorem k_ST_coder : x_kV M_ST_coder "java/lang/String" 0 := ⟨⟨by decide, Or.inl ⟨w_1265, rfl⟩⟩, w_1263, w_1264, ⟨by decide, by decide⟩, by decide +kernel⟩
def M_ST_charAt : x_M := (⟨"java/lang/String", "charAt", "(I)C"⟩, prog_21_method_56_code, 2, some (.char), [])
theorem d_ST_charAt_0 : decode M_ST_charAt.2.1 0 = .ok (.aload_n 0, 1) := by decide +kernel
theorem d_ST_charAt_1 : decode M_ST_charAt.2.1 1 = .ok (.invokevirtual 492, 3) := by decide +kernel
theorem d_ST_charAt_4 : decode M_ST_charAt.2.1 4 = .ok (.ifCond .eq 12, 3) := by decide +kernel
theorem d_ST_charAt_7 : decode M_ST_charAt.2.1 7 = .ok (.aload_n 0, 1) := by decide +kernel
theorem d_ST_charAt_8 : decode M_ST_charAt.2.1 8 = .ok (.getfield 9, 3) := by decide +kernel
theorem d_ST_charAt_11 : decode M_ST_charAt.2.1 11 = .ok (.iload_n 1, 1) := by decide +kernel
theorem d_ST_charAt_12 : decode M_ST_charAt.2.1 12 = .ok (.invokestatic 495, 3) := by decide +kernel
theorem d_ST_charAt_15 : decode M_ST_charAt.2.1 15 = .ok (.ireturn, 1) := by decide +kernel
theorem d_ST_charAt_16 : decode M_ST_charAt.2.1 16 = .ok (.aload_n 0, 1) := by decide +kernel
theorem d_ST_charAt_17 : decode M_ST_charAt.2.1 17 = .ok (.getfield 9, 3) := by decide +kernel
theorem d_ST_charAt_20 : decode M_ST_charAt.2.1 20 = .ok (.iload_n 1, 1) := by decide +kernel
theorem d_ST_charAt_21 : decode M_ST_charAt.2.1 21 = .ok (.invokestatic 498, 3) := by decide +kernel
theorem d_ST_charAt_24 : decode M_ST_charAt.2.1 24 = .ok (.ireturn, 1) := by decide +kernel
theorem k_ST_charAt : x_kV M_ST_charAt "java/lang/String" 1 := ⟨⟨by decide, Or.inl ⟨w_1271, rfl⟩⟩, w_1269, w_1270, ⟨by decide, by decide⟩, by decide +kernel⟩
def M_ST_isLatin1 : x_M := (⟨"java/lang/String", "isLatin1", "()Z"⟩, prog_21_method_154_code, 1, some (.boolean), [])
theorem d_ST_isLatin1_0 : decode M_ST_isLatin1.2.1 0 = .ok (.getstatic 38, 3) := by decide +kernel
theorem d_ST_isLatin1_3 : decode M_ST_isLatin1.2.1 3 = .ok (.ifCond .eq 14, 3) := by decide +kernel
theorem d_ST_isLatin1_6 : decode M_ST_isLatin1.2.1 6 = .ok (.aload_n 0, 1) := by decide +kernel
theorem d_ST_isLatin1_7 : decode M_ST_isLatin1.2.1 7 = .ok (.getfield 15, 3) := by decide +kernel
theorem d_ST_isLatin1_10 : decode M_ST_isLatin1.2.1 10 = .ok (.ifCond .ne 7, 3) := by decide +kernel
theorem d_ST_isLatin1_13 : decode M_ST_isLatin1.2.1 13 = .ok (.iconst 1, 1) := by decide +kernel
theorem d_ST_isLatin1_14 : decode M_ST_isLatin1.2.1 14 = .ok (.goto 4, 3) := by decide +kernel
theorem d_ST_isLatin1_17 : decode M_ST_isLatin1.2.1 17 = .ok (.iconst 0, 1) := by decide +kernel
theorem d_ST_isLatin1_18 : decode M_ST_isLatin1.2.1 18 = .ok (.ireturn, 1) := by decide +kernel
theorem k_ST_isLatin1 : x_kV M_ST_isLatin1 "java/lang/String" 0 := ⟨⟨by decide, Or.inl ⟨w_1275, rfl⟩⟩, w_1273, w_1274, ⟨by decide, by decide⟩, by decide +kernel⟩
def M_SL_charAt : x_M := (⟨"java/lang/StringLatin1", "charAt", "([BI)C"⟩, prog_22_method_2_code, 2, some (.char), [])
theorem d_SL_charAt_0 : decode M_SL_charAt.2.1 0 = .ok (.iload_n 1, 1) := by decide +kernel
theorem d_SL_charAt_1 : decode M_SL_charAt.2.1 1 = .ok (.aload_n 0, 1) := by decide +kernel
theorem d_SL_charAt_2 : decode M_SL_charAt.2.1 2 = .ok (.arraylength, 1) := by decide +kernel
theorem d_SL_charAt_3 : decode M_SL_charAt.2.1 3 = .ok (.invokestatic 9, 3) := by decide +kernel
theorem d_SL_charAt_6 : decode M_SL_charAt.2.1 6 = .ok (.aload_n 0, 1) := by decide +kernel
theorem d_SL_charAt_7 : decode M_SL_charAt.2.1 7 = .ok (.iload_n 1, 1) := by decide +kernel
theorem d_SL_charAt_8 : decode M_SL_charAt.2.1 8 = .ok (.baload, 1) := by decide +kernel
theorem d_SL_charAt_9 : decode M_SL_charAt.2.1 9 = .ok (.sipush 255, 3) := by decide +kernel
theorem d_SL_charAt_12 : decode M_SL_charAt.2.1 12 = .ok (.iand, 1) := by decide +kernel
theorem d_SL_charAt_13 : decode M_SL_charAt.2.1 13 = .ok (.i2c, 1) := by decide +kernel
theorem d_SL_charAt_14 : decode M_SL_charAt.2.1 14 = .ok (.ireturn, 1) := by decide +kernel
theorem k_SL_charAt : x_kS M_SL_charAt 2 := ⟨⟨by decide, Or.inl ⟨w_1278, rfl⟩⟩, w_1277, w_23, ⟨by decide, by decide⟩, by decide +kernel⟩
def M_ST_checkIndex : x_M := (⟨"java/lang/String", "checkIndex", "(II)V"⟩, prog_21_method_155_code, 2, none, [])
theorem d_ST_checkIndex_0 : decode M_ST_checkIndex.2.1 0 = .ok (.iload_n 0, 1) := by decide +kernel
theorem d_ST_checkIndex_1 : decode M_ST_checkIndex.2.1 1 = .ok (.iload_n 1, 1) := by decide +kernel
theorem d_ST_checkIndex_2 : decode M_ST_checkIndex.2.1 2 = .ok (.getstatic 1053, 3) := by decide +kernel
theorem d_ST_checkIndex_5 : decode M_ST_checkIndex.2.1 5 = .ok (.invokestatic 1059, 3) := by decide +kernel
theorem d_ST_checkIndex_8 : decode M_ST_checkIndex.2.1 8 = .ok (.pop, 1) := by decide +kernel
theorem d_ST_checkIndex_9 : decode M_ST_checkIndex.2.1 9 = .ok (.return_, 1) := by decide +kernel
theorem k_ST_checkIndex : x_kS M_ST_checkIndex 2 := ⟨⟨by decide, Or.inl ⟨w_1281, rfl⟩⟩, w_1280, w_22, ⟨by decide, by decide⟩, by decide +kernel⟩
def M_PC_checkIndex : x_M := (⟨"jdk/internal/util/Preconditions", "checkIndex", "(IILjava/util/function/BiFunction;)I"⟩, prog_26_method_11_code, 3, some (.int), [])
theorem d_PC_checkIndex_0 : decode M_PC_checkIndex.2.1 0 = .ok (.iload_n 0, 1) := by decide +kernel
theorem d_PC_checkIndex_1 : decode M_PC_checkIndex.2.1 1 = .ok (.ifCond .lt 8, 3) := by decide +kernel
theorem d_PC_checkIndex_4 : decode M_PC_checkIndex.2.1 4 = .ok (.iload_n 0, 1) := by decide +kernel
theorem d_PC_checkIndex_5 : decode M_PC_checkIndex.2.1 5 = .ok (.iload_n 1, 1) := by decide +kernel
theorem d_PC_checkIndex_6 : decode M_PC_checkIndex.2.1 6 = .ok (.if_icmp .lt 10, 3) := by decide +kernel
theorem d_PC_checkIndex_9 : decode M_PC_checkIndex.2.1 9 = .ok (.aload_n 2, 1) := by decide +kernel
theorem d_PC_checkIndex_10 : decode M_PC_checkIndex.2.1 10 = .ok (.iload_n 0, 1) := by decide +kernel
theorem d_PC_checkIndex_11 : decode M_PC_checkIndex.2.1 11 = .ok (.iload_n 1, 1) := by decide +kernel
theorem d_PC_checkIndex_16 : decode M_PC_checkIndex.2.1 16 = .ok (.iload_n 0, 1) := by decide +kernel
theorem d_PC_checkIndex_17 : decode M_PC_checkIndex.2.1 17 = .ok (.ireturn, 1) := by decide +kernel
theorem k_PC_checkIndex : x_kS M_PC_checkIndex 3 := ⟨⟨by decide, Or.inl ⟨w_1286, rfl⟩⟩, w_1285, w_24, ⟨by decide, by decide⟩, by decide +kernel⟩
section XT
theorem x_To {G : x_G} {s : State} (hZ : x_Z G s) : va_O "java/lang/String" (x_C G 37) (x_A G) s s.heap := (va_O.moved hZ.2.1.alike hZ.1.1.2.2.2.1.1).kept (fun a ha _ => hZ.2.2 a ha)
theorem x_Tc {G : x_G} {s : State} (hZ : x_Z G s) : va_OF "java/lang/String" "coder" "B" (.int 0) (x_C G 37) (x_A G) s s.heap := (va_OF.moved hZ.2.1.alike hZ.1.1.2.2.2.1.2.1).kept (fun a ha _ => hZ.2.2 a ha)
theorem x_Tv {G : x_G} {s : State} (hZ : x_Z G s) : va_OF "java/lang/String" "value" "[B" (.ref (x_C G 38)) (x_C G 37) (x_A G) s s.heap := (va_OF.moved hZ.2.1.alike hZ.1.1.2.2.2.1.2.2.1).kept (fun a ha _ => hZ.2.2 a ha)
theorem x_Tb {G : x_G} {s : State} (hZ : x_Z G s) : va_T .byte (x_C G 38) 109 (fun j => .int (x_rs.getD j 0)) (x_A G) s s.heap := (va_T.moved hZ.2.1.alike hZ.1.1.2.2.2.1.2.2.2).kept (fun a ha _ => hZ.2.2 a ha)
variable {G : x_G} {M : x_M} {rm : Room} {Qf : List Frame → Array Value → State → State → Prop} {ex : Bool} {n : Nat} {h : x_h} {cells slots : Nat} {lv : List (Nat × Value)} {st stk : List Value} {pc index : Nat}
theorem x_tcoder (hd : decode M.2.1 pc = .ok (.getfield index, 3)) (hl : Cond.fieldLink M.1.cls index "java/lang/String" "coder" "B" ∈ x_tsl) (k : x_W G M rm Qf ex n h cells slots lv (.int 0 :: st) (pc + 3)) : x_W G M rm Qf ex n h cells slots lv (.ref (x_N + 37) :: st) pc := by
  intro p e s m args below meth c F H locs ls hH hS hlv
  obtain ⟨f1, f2, f3, f4, f5, f6, f7, f8, hts, hK⟩ := id F
  have hk := k p e s m args below meth c F H locs ls hH hS hlv
  obtain ⟨cf, k', fi, f, cell, h1, h2, h3, h4, h5, h6⟩ := (x_Tc hK.2.1).kept hS.2.1
  show W p _ e rm s m args below meth c H locs cells slots _ (F0 m pc ls (.ref (x_ad G (x_N + 37)) :: x_st G st))
  rw [x_adN]
  exact W.getf f1 f2 f6 (hts _ hl) h1 h2 h3 h4 (v := .int 0) h5 rfl rfl hd hk
theorem x_tvalue (hd : decode M.2.1 pc = .ok (.getfield index, 3)) (hl : Cond.fieldLink M.1.cls index "java/lang/String" "value" "[B" ∈ x_tsl) (k : x_W G M rm Qf ex n h cells slots lv (.ref (x_N + 38) :: st) (pc + 3)) : x_W G M rm Qf ex n h cells slots lv (.ref (x_N + 37) :: st) pc := by
  intro p e s m args below meth c F H locs ls hH hS hlv
  obtain ⟨f1, f2, f3, f4, f5, f6, f7, f8, hts, hK⟩ := id F
  have hk := k p e s m args below meth c F H locs ls hH hS hlv
  obtain ⟨cf, k', fi, f, cell, h1, h2, h3, h4, h5, h6⟩ := (x_Tv hK.2.1).kept hS.2.1
  show W p _ e rm s m args below meth c H locs cells slots _ (F0 m pc ls (.ref (x_ad G (x_N + 37)) :: x_st G st))
  rw [x_adN]
  refine W.getf f1 f2 f6 (hts _ hl) h1 h2 h3 h4 (v := .ref (x_C G 38)) h5 rfl rfl hd ?_
  show W p _ e rm s m args below meth c H locs cells slots _ (F0 m (pc + 3) ls (.ref (x_C G 38) :: x_st G st))
  rw [← x_adN (G := G) 38]
  exact hk
theorem x_tlen (hd : decode M.2.1 pc = .ok (.arraylength, 1)) (k : x_W G M rm Qf ex n h cells slots lv (.int 109 :: st) (pc + 1)) : x_W G M rm Qf ex n h cells slots lv (.ref (x_N + 38) :: st) pc := by
  intro p e s m args below meth c F H locs ls hH hS hlv
  obtain ⟨f1, f2, f3, f4, f5, f6, f7, f8, hts, hK⟩ := id F
  have hk := k p e s m args below meth c F H locs ls hH hS hlv
  obtain ⟨cell, h1, h2, h3, h4, h5, h6, h7⟩ := (x_Tb hK.2.1).kept hS.2.1
  show W p _ e rm s m args below meth c H locs cells slots _ (F0 m pc ls (.ref (x_ad G (x_N + 38)) :: x_st G st))
  rw [x_adN]
  exact W.alen f1 f2 h1 h2 h5 rfl rfl hd hk
theorem x_tbald {i : Int32} (hd : decode M.2.1 pc = .ok (.baload, 1)) (hin : x_ix i 109 = true) (k : x_W G M rm Qf ex n h cells slots lv (.int (x_rs.getD i.toNatClampNeg 0) :: st) (pc + 1)) : x_W G M rm Qf ex n h cells slots lv (.int i :: .ref (x_N + 38) :: st) pc := by
  intro p e s m args below meth c F H locs ls hH hS hlv
  obtain ⟨f1, f2, f3, f4, f5, f6, f7, f8, hts, hK⟩ := id F
  have hk := k p e s m args below meth c F H locs ls hH hS hlv
  obtain ⟨cell, h1, h2, h3, h4, h5, h6, h7⟩ := (x_Tb hK.2.1).kept hS.2.1
  have hlt := x_ix_lt hin
  have hi0 := x_ix_ok hin
  show W p _ e rm s m args below meth c H locs cells slots _ (F0 m pc ls (.int i :: .ref (x_ad G (x_N + 38)) :: x_st G st))
  rw [x_adN]
  refine W.bald (v := .int (x_rs.getD i.toNatClampNeg 0)) f1 f2 h1 h2 h3 (fun z => ?_) (h6 _ hlt) rfl rfl hd hk
  rcases z with z | z
  · exact hi0 (Or.inl z)
  · omega
theorem x_tcomp (hd : decode M.2.1 pc = .ok (.getstatic index, 3)) (hl : Cond.fieldLink M.1.cls index "java/lang/String" "COMPACT_STRINGS" "Z" ∈ x_tsl) (k : x_W G M rm Qf ex n h cells slots lv (.int 1 :: st) (pc + 3)) : x_W G M rm Qf ex n h cells slots lv st pc := by
  intro p e s m args below meth c F H locs ls hH hS hlv
  obtain ⟨f1, f2, f3, f4, f5, f6, f7, f8, hts, hK⟩ := id F
  have hk := k p e s m args below meth c F H locs ls hH hS hlv
  have hz : va_Z "java/lang/String" "COMPACT_STRINGS" "Z" (.int 1) (x_A G) s s.heap := (va_Z.moved hK.2.1.2.1.alike hK.2.1.1.1.2.2.2.2.2.2.1).kept (fun a ha _ => hK.2.1.2.2 a ha)
  exact va_gets f1 f2 hz hS f6 (hts _ hl) (fun _ z => z) hd hk
theorem x_tform (hd : decode M.2.1 pc = .ok (.getstatic index, 3)) (hl : Cond.fieldLink M.1.cls index "jdk/internal/util/Preconditions" "SIOOBE_FORMATTER" "Ljava/util/function/BiFunction;" ∈ x_tsl) (k : ∀ v : Value, (v = .null ∨ ∃ k, v = .ref k) → x_W G M rm Qf ex n h cells slots lv (v :: st) (pc + 3)) : x_W G M rm Qf ex n h cells slots lv st pc := by
  intro p e s m args below meth c F H locs ls hH hS hlv
  obtain ⟨f1, f2, f3, f4, f5, f6, f7, f8, hts, hK⟩ := id F
  obtain ⟨v, hv, hz0⟩ := hK.2.1.1.1.2.2.2.2.2.2.2
  have hz : va_Z "jdk/internal/util/Preconditions" "SIOOBE_FORMATTER" "Ljava/util/function/BiFunction;" (x_v0 G v) (x_A G) s s.heap := (va_Z.moved hK.2.1.2.1.alike hz0).kept (fun a ha _ => hK.2.1.2.2 a ha)
  have hk := k v hv p e s m args below meth c F H locs ls hH hS hlv
  refine va_gets f1 f2 hz hS f6 (hts _ hl) (fun _ z => z) hd ?_
  have e0 : x_v0 G v = x_v G v := rfl
  rw [e0]
  exact hk
theorem x_cVt {M2 : x_M} {d d2 na : Nat} {m : x_m} {As : List Value} {r : Int32 × x_m} (hd : decode M.2.1 pc = .ok (.invokevirtual index, 3)) (hlk : Cond.methodLink M.1.cls index M2.1 ∈ x_tsl) (hk : x_kV M2 "java/lang/String" na) (hR : x_R G M2 (x_rd d2) ex (.ref (x_N + 37) :: As) x_np (x_hp m) (x_pi r)) (hna : As.length = na)
    (hrm : x_rm (x_rd d) (x_rd d2) M2) (hal : (lg_sl (.ref (x_N + 37) :: As)).length ≤ M2.2.2.1) (hw : (st.map fun v => v.category).sum ≤ 8) (hst : stk = As.reverse ++ .ref (x_N + 37) :: st)
    (kk : x_W G M (x_rd d) Qf ex x_np (x_hp r.2) 0 0 lv (.int r.1 :: st) (pc + 3)) : x_W G M (x_rd d) Qf ex x_np (x_hp m) 0 0 lv stk pc := by
  obtain ⟨hM, hii, hse, hp, hn⟩ := hk
  subst hna
  intro p e s mm args below meth c F H locs ls hH hS hl T hT X
  subst hT; subst hst
  obtain ⟨f1, f2, f3, f4, f5, f6, f7, f8, hts, hK⟩ := id F
  obtain ⟨mk, methk, ck, n1, n2, n3, n4, n5, n6, n7, n8, n9⟩ := hM.spec hts
  obtain ⟨mk', methM, hnamed, hmethM, hstM, habM⟩ := Cond.instanceMethod_spec (hts _ hii)
  cases n1.symm.trans hnamed
  cases n2.symm.trans hmethM
  obtain ⟨cellB, hcB, hoB, hclB, -⟩ := (x_To hK.2.1).kept hS.2.1
  obtain ⟨c2, r2, m2, q1, q2, q3, q4, kP, hkP, hkPi⟩ := Cond.selects_spec (hts _ hse)
  cases hclB.symm.trans q1
  cases (State.methodFound?_of_named hnamed hp).symm.trans q2
  cases hnamed.symm.trans q3
  have hselP : selectMethod e.platform s.vm cellB.cls mk = .method mk := by rw [Launch.admits_selectMethod X.admits]; exact q4
  rw [n9] at hn
  obtain ⟨vm₁, X₁, hstep⟩ := X.invokevirtual f1 f6 (hts _ hlk) hnamed hmethM hstM hkP hkPi hp (a := x_C G 37) (cell := cellB) hcB (fun z h => by rw [h] at hoB; cases hoB) hselP hmethM habM hkP hkPi (g := F0 mm pc ls (x_st G (As.reverse ++ .ref (x_N + 37) :: st))) rfl (argsL := As.map (x_v G)) (rest := x_st G st) (by rw [List.length_map]; exact (Option.some.inj hn).symm)
    (by show x_st G (As.reverse ++ .ref (x_N + 37) :: st) = _; rw [x_stA]; show _ ++ (Value.ref (x_ad G (x_N + 37)) :: x_st G st) = _; rw [x_adN]) (by rw [f2]; exact hd)
  obtain ⟨t, a1, b1⟩ := x_goes hR hM hrm (Nat.le_refl 0) (Nat.le_refl 0) hal hw (Qf := Qf) (fun v n' h' z => by obtain ⟨h1, rfl, rfl⟩ := z; cases h1; exact kk) (fun Y n' h' z => by obtain ⟨h1, -, -⟩ := z; cases h1) F (T := T.setVm vm₁) hH hS hl X₁ hd n1
  refine ⟨t, hstep _ (fun acts => ?_), b1⟩
  have e0 : (Value.ref (x_C G 37) :: As.map (x_v G)).toArray = ((Value.ref (x_N + 37) :: As).map (x_v G)).toArray := by
    show _ = (Value.ref (x_ad G (x_N + 37)) :: As.map (x_v G)).toArray
    rw [x_adN]
  rw [e0]
  exact a1 acts
end XT
def x_ch (i : Int32) : Int32 := x_rs.getD i.toNatClampNeg 0
theorem x_ch_ok : ∀ j, j < 109 → ((x_rs.getD j 0 &&& 255).toUInt32 % 65536).toInt32 = x_rs.getD j 0 ∧ narrow .char (.int (x_rs.getD j 0)) = .int (x_rs.getD j 0) := by decide +kernel
section XTC
variable {G : x_G} {ex : Bool} {m : x_m}
theorem c_ST_coder : x_R G M_ST_coder (x_rd 0) ex [.ref (x_N + 37)] x_np (x_hp m) (x_pi (0, m)) := by
  show x_W G M_ST_coder (x_rd 0) (x_Q G (x_rd 0) ex (x_pi (0, m))) ex x_np (x_hp m) 0 0 [(0, .ref (x_N + 37))] [] 0
  refine x_tcomp d_ST_coder_0 w_1266 ?_
  refine x_if_eq (tgt := 13) d_ST_coder_3 (by decide) (fun c_ => absurd c_ (by decide)) (fun _ => ?_)
  refine x_aload_n d_ST_coder_6 rfl rfl ?_
  refine x_tcoder d_ST_coder_7 w_1519 ?_
  refine x_goto (tgt := 14) d_ST_coder_10 (by decide) ?_
  exact x_ri d_ST_coder_14 rfl rfl
theorem c_ST_isLatin1 : x_R G M_ST_isLatin1 (x_rd 0) ex [.ref (x_N + 37)] x_np (x_hp m) (x_pi (1, m)) := by
  show x_W G M_ST_isLatin1 (x_rd 0) (x_Q G (x_rd 0) ex (x_pi (1, m))) ex x_np (x_hp m) 0 0 [(0, .ref (x_N + 37))] [] 0
  refine x_tcomp d_ST_isLatin1_0 w_1266 ?_
  refine x_if_eq (tgt := 17) d_ST_isLatin1_3 (by decide) (fun c_ => absurd c_ (by decide)) (fun _ => ?_)
  refine x_aload_n d_ST_isLatin1_6 rfl rfl ?_
  refine x_tcoder d_ST_isLatin1_7 w_1519 ?_
  refine x_if_ne (tgt := 17) d_ST_isLatin1_10 (by decide) (fun c_ => absurd rfl c_) (fun _ => ?_)
  refine x_iconst (v := 1) d_ST_isLatin1_13 (by decide) ?_
  refine x_goto (tgt := 18) d_ST_isLatin1_14 (by decide) ?_
  exact x_ri d_ST_isLatin1_18 rfl rfl
theorem c_ST_length : x_R G M_ST_length (x_rd 1) ex [.ref (x_N + 37)] x_np (x_hp m) (x_pi (109, m)) := by
  show x_W G M_ST_length (x_rd 1) (x_Q G (x_rd 1) ex (x_pi (109, m))) ex x_np (x_hp m) 0 0 [(0, .ref (x_N + 37))] [] 0
  refine x_aload_n d_ST_length_0 rfl rfl ?_
  refine x_tvalue d_ST_length_1 w_1518 ?_
  refine x_tlen d_ST_length_4 ?_
  refine x_aload_n d_ST_length_5 rfl rfl ?_
  refine x_cVt (M2 := M_ST_coder) (As := []) (st := [.int 109]) d_ST_length_6 w_1262 k_ST_coder c_ST_coder rfl ⟨Nat.le_of_ble_eq_true rfl, Nat.le_of_ble_eq_true rfl⟩ (Nat.le_of_ble_eq_true rfl) (Nat.le_of_ble_eq_true rfl) rfl ?_
  refine x_ishr d_ST_length_9 ?_
  have e0 : ((109 : Int32) >>> (((0 : Int32), m).1 &&& 31)) = 109 := by show ((109 : Int32) >>> ((0 : Int32) &&& 31)) = 109; decide
  rw [e0]
  exact x_ri (v := 109) d_ST_length_10 rfl rfl
theorem c_PC_checkIndex {i k : Int32} {v : Value} (h0 : ¬ i < 0) (h1 : i < k) : x_R G M_PC_checkIndex (x_rd 0) ex [.int i, .int k, v] x_np (x_hp m) (x_pi (i, m)) := by
  show x_W G M_PC_checkIndex (x_rd 0) (x_Q G (x_rd 0) ex (x_pi (i, m))) ex x_np (x_hp m) 0 0 [(0, .int i), (1, .int k), (2, v)] [] 0
  refine x_iload_n d_PC_checkIndex_0 rfl rfl ?_
  refine x_if_lt (tgt := 9) d_PC_checkIndex_1 (by decide) (fun c_ => absurd c_ h0) (fun _ => ?_)
  refine x_iload_n d_PC_checkIndex_4 rfl rfl ?_
  refine x_iload_n d_PC_checkIndex_5 rfl rfl ?_
  refine x_icmp_lt (tgt := 16) d_PC_checkIndex_6 (by decide) (fun _ => ?_) (fun c_ => absurd h1 c_)
  refine x_iload_n d_PC_checkIndex_16 rfl rfl ?_
  exact x_ri d_PC_checkIndex_17 rfl rfl
theorem c_ST_checkIndex {i k : Int32} (h0 : ¬ i < 0) (h1 : i < k) : x_R G M_ST_checkIndex (x_rd 1) ex [.int i, .int k] x_np (x_hp m) (x_pv m) := by
  show x_W G M_ST_checkIndex (x_rd 1) (x_Q G (x_rd 1) ex (x_pv m)) ex x_np (x_hp m) 0 0 [(0, .int i), (1, .int k)] [] 0
  refine x_iload_n d_ST_checkIndex_0 rfl rfl ?_
  refine x_iload_n d_ST_checkIndex_1 rfl rfl ?_
  refine x_tform d_ST_checkIndex_2 w_1282 (fun v hv => ?_)
  have hlen : (lg_sl [.int i, .int k, v]).length ≤ 3 := by rcases hv with rfl | ⟨a, rfl⟩ <;> exact Nat.le_of_ble_eq_true rfl
  refine x_cSi (M2 := M_PC_checkIndex) (As := [.int i, .int k, v]) (st := []) d_ST_checkIndex_5 w_1284 k_PC_checkIndex (c_PC_checkIndex h0 h1) rfl ⟨Nat.le_of_ble_eq_true rfl, Nat.le_of_ble_eq_true rfl⟩ hlen (Nat.le_of_ble_eq_true rfl) rfl ?_
  refine x_pop d_ST_checkIndex_8 rfl ?_
  exact x_rv d_ST_checkIndex_9 rfl
theorem x_ix_109 {i : Int32} (h : x_ix i 109 = true) : ¬ i < 0 ∧ i < 109 := by
  simp only [x_ix, Bool.and_eq_true, decide_eq_true_eq] at h
  refine ⟨h.1, ?_⟩
  obtain ⟨j, hj, rfl⟩ := nI_of h.1
  have h2 := h.2
  rw [nI_clamp hj] at h2
  exact nI_lt h2 (by decide)
theorem c_SL_charAt {i : Int32} (hi : x_ix i 109 = true) : x_R G M_SL_charAt (x_rd 2) ex [.ref (x_N + 38), .int i] x_np (x_hp m) (x_pi (x_ch i, m)) := by
  show x_W G M_SL_charAt (x_rd 2) (x_Q G (x_rd 2) ex (x_pi (x_ch i, m))) ex x_np (x_hp m) 0 0 [(0, .ref (x_N + 38)), (1, .int i)] [] 0
  refine x_iload_n d_SL_charAt_0 rfl rfl ?_
  refine x_aload_n d_SL_charAt_1 rfl rfl ?_
  refine x_tlen d_SL_charAt_2 ?_
  refine x_cSv (M2 := M_ST_checkIndex) (As := [.int i, .int 109]) (st := []) d_SL_charAt_3 w_1279 k_ST_checkIndex (c_ST_checkIndex (x_ix_109 hi).1 (x_ix_109 hi).2) rfl ⟨Nat.le_of_ble_eq_true rfl, Nat.le_of_ble_eq_true rfl⟩ (Nat.le_of_ble_eq_true rfl) (Nat.le_of_ble_eq_true rfl) rfl ?_
  refine x_aload_n d_SL_charAt_6 rfl rfl ?_
  refine x_iload_n d_SL_charAt_7 rfl rfl ?_
  refine x_tbald d_SL_charAt_8 hi ?_
  refine x_sipush (v := 255) d_SL_charAt_9 (by decide) ?_
  refine x_iand d_SL_charAt_12 ?_
  refine x_i2c d_SL_charAt_13 ?_
  obtain ⟨e1, e2⟩ := x_ch_ok _ (x_ix_lt hi)
  rw [e1]
  exact x_ri d_SL_charAt_14 rfl e2
theorem c_ST_charAt {i : Int32} (hi : x_ix i 109 = true) : x_R G M_ST_charAt (x_rd 3) ex [.ref (x_N + 37), .int i] x_np (x_hp m) (x_pi (x_ch i, m)) := by
  show x_W G M_ST_charAt (x_rd 3) (x_Q G (x_rd 3) ex (x_pi (x_ch i, m))) ex x_np (x_hp m) 0 0 [(0, .ref (x_N + 37)), (1, .int i)] [] 0
  refine x_aload_n d_ST_charAt_0 rfl rfl ?_
  refine x_cVt (M2 := M_ST_isLatin1) (As := []) (st := []) d_ST_charAt_1 w_1272 k_ST_isLatin1 c_ST_isLatin1 rfl ⟨Nat.le_of_ble_eq_true rfl, Nat.le_of_ble_eq_true rfl⟩ (Nat.le_of_ble_eq_true rfl) (Nat.le_of_ble_eq_true rfl) rfl ?_
  refine x_if_eq (tgt := 16) d_ST_charAt_4 (by decide) (fun c_ => absurd (show (1 : Int32) = 0 from c_) (by decide)) (fun _ => ?_)
  refine x_aload_n d_ST_charAt_7 rfl rfl ?_
  refine x_tvalue d_ST_charAt_8 w_1518 ?_
  refine x_iload_n d_ST_charAt_11 rfl rfl ?_
  refine x_cSi (M2 := M_SL_charAt) (As := [.ref (x_N + 38), .int i]) (st := []) d_ST_charAt_12 w_1276 k_SL_charAt (c_SL_charAt hi) rfl ⟨Nat.le_of_ble_eq_true rfl, Nat.le_of_ble_eq_true rfl⟩ (Nat.le_of_ble_eq_true rfl) (Nat.le_of_ble_eq_true rfl) rfl ?_
  exact x_ri d_ST_charAt_15 rfl (x_ch_ok _ (x_ix_lt hi)).2
end XTC
theorem x_ldcT {G : x_G} {M : x_M} {rm : Room} {Qf : List Frame → Array Value → State → State → Prop} {ex : Bool} {n : Nat} {h : x_h} {cells slots : Nat} {lv : List (Nat × Value)} {st : List Value} {pc : Nat} (hd : decode M.2.1 pc = .ok (.ldc 7, 2)) (hM : M.1.cls = "QuestionReaderModel") (k : x_W G M rm Qf ex n h cells slots lv (.ref (x_N + 37) :: st) (pc + 2)) : x_W G M rm Qf ex n h cells slots lv st pc := by
  intro p e s m args below meth c F H locs ls hH hS hlv
  obtain ⟨f1, f2, f3, f4, f5, f6, f7, f8, hts, hK⟩ := id F
  have hk := k p e s m args below meth c F H locs ls hH hS hlv
  refine va_ldcS f1 f2 (own := "QuestionReaderModel") (by rw [← hM]; exact f6) (vk_R.warm hK.2.1.2.1 hK.2.1.1.1.2.2.2.2.1) hd ?_
  show W p _ e rm s m args below meth c H locs cells slots _ (F0 m (pc + 2) ls (.ref (x_C G 37) :: x_st G st))
  rw [← x_adN (G := G) 37]
  exact hk
theorem x_rmo {d d2 : Nat} {M2 : x_M} (h : d2 + 1 ≤ d) (hm : M2.2.2.1 ≤ 21) : x_rm (x_rd d) (x_rd d2) M2 := ⟨h, by show 8 + (M2.2.2.1 + 11) + 40 * d2 ≤ 40 * d; omega⟩
section XSW
variable {G : x_G} {M : x_M} {rm : Room} {Qf : List Frame → Array Value → State → State → Prop} {ex : Bool} {n : Nat} {h : x_h} {cells slots : Nat} {lv : List (Nat × Value)} {st : List Value} {pc len : Nat} {dflt lo hi : Int} {offs : Array Int} {x : Int32}
theorem x_tsI {k : Int32} {off : Int} {tgt : Nat} (hd : decode M.2.1 pc = .ok (.tableswitch dflt lo hi offs, len)) (hx : x = k) (h1 : ¬ k.toInt < lo) (h2 : ¬ hi < k.toInt) (ho : offs[(k.toInt - lo).toNat]? = some off) (ht : (pc : Int) + off = (tgt : Int)) (kk : x_W G M rm Qf ex n h cells slots lv st tgt) : x_W G M rm Qf ex n h cells slots lv (.int x :: st) pc := by
  subst hx
  exact fun p e s m args below meth c F H locs ls hH hS hl => lv_tableIn F.1 F.2.1 hd h1 h2 ho ht (kk p e s m args below meth c F H locs ls hH hS hl)
theorem x_tsO {tgt : Nat} (hd : decode M.2.1 pc = .ok (.tableswitch dflt lo hi offs, len)) (ho : x.toInt < lo ∨ hi < x.toInt) (ht : (pc : Int) + dflt = (tgt : Int)) (kk : x_W G M rm Qf ex n h cells slots lv st tgt) : x_W G M rm Qf ex n h cells slots lv (.int x :: st) pc :=
  fun p e s m args below meth c F H locs ls hH hS hl => lv_tableOut F.1 F.2.1 hd ho ht (kk p e s m args below meth c F H locs ls hH hS hl)
end XSW
theorem x_tsd {x : Int32} {n : Nat} (hn : n < 1000) (h : ∀ j : Nat, j < n → ¬ x = nI j) : x.toInt < 0 ∨ ((n : Int) - 1) < x.toInt := by
  rcases pk_ix x (n := n) (by omega) with h1 | h1 | ⟨j, hj, e⟩
  · left; simpa using Int32.lt_iff_toInt_lt.mp h1
  · right
    have := Int32.le_iff_toInt_le.mp h1
    rw [nI_toInt (by omega)] at this
    omega
  · exact absurd e (h j hj)
