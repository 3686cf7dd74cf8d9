def M_TX_addFour : x_M := (⟨"QuestionReader$Text", "addFour", "(I)V"⟩, prog_12_method_2_code, 3, none, [])
theorem d_TX_addFour_0 : decode M_TX_addFour.2.1 0 = .ok (.bipush 24, 2) := by decide +kernel
theorem d_TX_addFour_2 : decode M_TX_addFour.2.1 2 = .ok (.istore_n 2, 1) := by decide +kernel
theorem d_TX_addFour_3 : decode M_TX_addFour.2.1 3 = .ok (.iload_n 2, 1) := by decide +kernel
theorem d_TX_addFour_4 : decode M_TX_addFour.2.1 4 = .ok (.ifCond .lt 41, 3) := by decide +kernel
theorem d_TX_addFour_7 : decode M_TX_addFour.2.1 7 = .ok (.aload_n 0, 1) := by decide +kernel
theorem d_TX_addFour_8 : decode M_TX_addFour.2.1 8 = .ok (.getfield 14, 3) := by decide +kernel
theorem d_TX_addFour_11 : decode M_TX_addFour.2.1 11 = .ok (.ldc 9, 2) := by decide +kernel
theorem d_TX_addFour_13 : decode M_TX_addFour.2.1 13 = .ok (.if_icmp .ge 32, 3) := by decide +kernel
theorem d_TX_addFour_16 : decode M_TX_addFour.2.1 16 = .ok (.aload_n 0, 1) := by decide +kernel
theorem d_TX_addFour_17 : decode M_TX_addFour.2.1 17 = .ok (.getfield 10, 3) := by decide +kernel
theorem d_TX_addFour_20 : decode M_TX_addFour.2.1 20 = .ok (.aload_n 0, 1) := by decide +kernel
theorem d_TX_addFour_21 : decode M_TX_addFour.2.1 21 = .ok (.getfield 14, 3) := by decide +kernel
theorem d_TX_addFour_24 : decode M_TX_addFour.2.1 24 = .ok (.iload_n 1, 1) := by decide +kernel
theorem d_TX_addFour_25 : decode M_TX_addFour.2.1 25 = .ok (.iload_n 2, 1) := by decide +kernel
theorem d_TX_addFour_26 : decode M_TX_addFour.2.1 26 = .ok (.iushr, 1) := by decide +kernel
theorem d_TX_addFour_27 : decode M_TX_addFour.2.1 27 = .ok (.i2b, 1) := by decide +kernel
theorem d_TX_addFour_28 : decode M_TX_addFour.2.1 28 = .ok (.bastore, 1) := by decide +kernel
theorem d_TX_addFour_29 : decode M_TX_addFour.2.1 29 = .ok (.aload_n 0, 1) := by decide +kernel
theorem d_TX_addFour_30 : decode M_TX_addFour.2.1 30 = .ok (.dup, 1) := by decide +kernel
theorem d_TX_addFour_31 : decode M_TX_addFour.2.1 31 = .ok (.getfield 14, 3) := by decide +kernel
theorem d_TX_addFour_34 : decode M_TX_addFour.2.1 34 = .ok (.iconst 1, 1) := by decide +kernel
theorem d_TX_addFour_35 : decode M_TX_addFour.2.1 35 = .ok (.iadd, 1) := by decide +kernel
theorem d_TX_addFour_36 : decode M_TX_addFour.2.1 36 = .ok (.putfield 14, 3) := by decide +kernel
theorem d_TX_addFour_39 : decode M_TX_addFour.2.1 39 = .ok (.iinc 2 (-8), 3) := by decide +kernel
theorem d_TX_addFour_42 : decode M_TX_addFour.2.1 42 = .ok (.goto (-39), 3) := by decide +kernel
theorem d_TX_addFour_45 : decode M_TX_addFour.2.1 45 = .ok (.return_, 1) := by decide +kernel
theorem k_TX_addFour : x_kV M_TX_addFour "QuestionReader$Text" 1 := ⟨⟨by decide, Or.inl ⟨w_872, rfl⟩⟩, w_870, w_871, ⟨by decide, by decide⟩, by decide +kernel⟩
def B_TX_addFour_45    (m : x_m) : Option (x_m) := some m
theorem b_TX_addFour_45 {G : x_G} {ex : Bool} {r : x_m}    {m : x_m} (h : B_TX_addFour_45 m = some r) : x_W G M_TX_addFour (x_rd 0) (x_Q G (x_rd 0) ex (x_pv r)) ex x_np (x_hp m) 0 0 [] [] 45 := by
  unfold B_TX_addFour_45 at h
  cases h
  exact x_rv d_TX_addFour_45 rfl
def B_TX_addFour_3   : Nat → Int32 → Int32 → x_m → Option (x_m)
  | 0, _, _, _ => none
  | f_ + 1, l1, l2, m => (if l2 < 0 then B_TX_addFour_45 m else (if 65536 ≤ (m.1 1 1) then B_TX_addFour_45 m else (if x_ix (m.1 1 1) 65536 = true then (B_TX_addFour_3 f_) l1 (l2 + (-8)) (x_wS (x_wA m 2 (m.1 1 1).toNatClampNeg (vp_nar .byte (((l1.toUInt32 >>> (l2.toUInt32 &&& Int32.toUInt32 31)).toInt32).toInt8.toInt32))) 1 1 (((x_wA m 2 (m.1 1 1).toNatClampNeg (vp_nar .byte (((l1.toUInt32 >>> (l2.toUInt32 &&& Int32.toUInt32 31)).toInt32).toInt8.toInt32))).1 1 1) + 1)) else none)))
theorem b_TX_addFour_3 {G : x_G} {ex : Bool} {r : x_m}   : ∀ (f_ : Nat) (l1 : Int32) (l2 : Int32) (m : x_m), B_TX_addFour_3 f_ l1 l2 m = some r → x_W G M_TX_addFour (x_rd 0) (x_Q G (x_rd 0) ex (x_pv r)) ex x_np (x_hp m) 0 0 [(0, .ref 1), (1, .int l1), (2, .int l2)] [] 3 := by
  intro f_
  induction f_ with
  | zero => intro l1 l2 m h; exact nomatch h
  | succ f_ ih =>
    intro l1 l2 m h
    rw [B_TX_addFour_3] at h
    have hK3 := ih
    refine x_iload_n d_TX_addFour_3 rfl rfl ?_
    refine x_if_lt (tgt := 45) d_TX_addFour_4 (by decide) (fun c_ => ?_) (fun c_ => ?_)
    · replace h := x_it h c_
      refine x_sbk [] (lv2 := []) rfl ?_; exact b_TX_addFour_45 h
    · replace h := x_ie h c_
      refine x_aload_n d_TX_addFour_7 rfl rfl ?_
      refine x_gI d_TX_addFour_8 (f_TX_14 rfl) sh_TX hp_TX rfl ?_
      refine x_ldc (v := 65536) d_TX_addFour_11 w_40 ?_
      refine x_icmp_ge (tgt := 45) d_TX_addFour_13 (by decide) (fun c_ => ?_) (fun c_ => ?_)
      · replace h := x_it h c_
        refine x_sbk [] (lv2 := []) rfl ?_; exact b_TX_addFour_45 h
      · replace h := x_ie h c_
        refine x_aload_n d_TX_addFour_16 rfl rfl ?_
        refine x_gC d_TX_addFour_17 (f_TX_10 rfl) sh_TX hp_TX rfl ?_
        refine x_aload_n d_TX_addFour_20 rfl rfl ?_
        refine x_gI d_TX_addFour_21 (f_TX_14 rfl) sh_TX hp_TX rfl ?_
        refine x_iload_n d_TX_addFour_24 rfl rfl ?_
        refine x_iload_n d_TX_addFour_25 rfl rfl ?_
        refine x_iushr d_TX_addFour_26 ?_
        refine x_i2b d_TX_addFour_27 ?_
        obtain ⟨g_28, h⟩ := x_gd h
        refine x_sB d_TX_addFour_28 rfl sa_TX_bytes ha_TX_bytes g_28 ?_
        refine x_aload_n d_TX_addFour_29 rfl rfl ?_
        refine x_dup d_TX_addFour_30 rfl ?_
        refine x_gI d_TX_addFour_31 (f_TX_14 rfl) sh_TX hp_TX rfl ?_
        refine x_iconst (v := 1) d_TX_addFour_34 (by decide) ?_
        refine x_iadd d_TX_addFour_35 ?_
        refine x_pI d_TX_addFour_36 (f_TX_14 rfl) tb_TX rfl sh_TX hp_TX rfl ⟨rfl, rfl⟩ ?_
        refine x_iinc (v := l2 + (-8)) (lv2 := [(0, .ref 1), (1, .int l1), (2, .int (l2 + (-8)))]) d_TX_addFour_39 rfl rfl (by decide) rfl ?_
        refine x_goto (tgt := 3) d_TX_addFour_42 (by decide) ?_
        exact hK3 _ _ _ h
def F_TX_addFour  (a1 : Int32) (m : x_m) : Option (x_m) := B_TX_addFour_3 x_fu a1 24 m
theorem c_TX_addFour {G : x_G} {ex : Bool} {r : x_m}  {a1 : Int32} {m : x_m} (h : F_TX_addFour a1 m = some r) : x_R G M_TX_addFour (x_rd 0) ex [.ref 1, .int a1] x_np (x_hp m) (x_pv r) := by
  unfold F_TX_addFour at h
  show x_W G M_TX_addFour (x_rd 0) (x_Q G (x_rd 0) ex (x_pv r)) ex x_np (x_hp m) 0 0 [(0, .ref 1), (1, .int a1)] [] 0
  refine x_bipush (v := 24) d_TX_addFour_0 (by decide) ?_
  refine x_istore_n (lv2 := [(0, .ref 1), (1, .int a1), (2, .int 24)]) d_TX_addFour_2 rfl (by decide) rfl ?_
  exact b_TX_addFour_3 _ _ _ _ h
