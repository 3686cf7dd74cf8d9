/-! feed in step -/
theorem shb (x : BitVec 32) (s : Nat) (h : s ≤ 24) : BitVec.signExtend 8 (x >>> s) = BitVec.signExtend 8 (x.sshiftRight s) := by
  apply BitVec.eq_of_getLsbD_eq
  intro i hi
  rw [BitVec.getLsbD_signExtend, BitVec.getLsbD_signExtend, if_pos (show i < 32 by omega), if_pos (show i < 32 by omega), BitVec.getLsbD_ushiftRight, BitVec.getLsbD_sshiftRight, if_pos (by omega), decide_eq_false (show ¬ 32 ≤ i by omega)]
  rfl
theorem i8_eq {x y : Int8} (h : x.toBitVec = y.toBitVec) : x = y := Int8.toBitVec_inj.mp h
theorem sh24 (a : Int32) : ((a.toUInt32 >>> ((24 : Int32).toUInt32 &&& Int32.toUInt32 31)).toInt32).toInt8 = (a >>> ((24 : Int32) &&& 31)).toInt8 := i8_eq (shb a.toBitVec 24 (by omega))
theorem sh16 (a : Int32) : ((a.toUInt32 >>> ((16 : Int32).toUInt32 &&& Int32.toUInt32 31)).toInt32).toInt8 = (a >>> ((16 : Int32) &&& 31)).toInt8 := i8_eq (shb a.toBitVec 16 (by omega))
theorem sh8 (a : Int32) : ((a.toUInt32 >>> ((8 : Int32).toUInt32 &&& Int32.toUInt32 31)).toInt32).toInt8 = (a >>> ((8 : Int32) &&& 31)).toInt8 := i8_eq (shb a.toBitVec 8 (by omega))
theorem sh0 (a : Int32) : ((a.toUInt32 >>> ((0 : Int32).toUInt32 &&& Int32.toUInt32 31)).toInt32).toInt8 = a.toInt8 := by
  apply i8_eq
  show BitVec.signExtend 8 (a.toBitVec >>> 0) = BitVec.signExtend 8 a.toBitVec
  simp
theorem i8_tab : ∀ c, c < 256 → vp_nar .byte ((Int8.ofBitVec (BitVec.ofNat 8 c)).toInt32) = sg c := by decide +kernel
theorem byte_ok (z : Int8) : isB (vp_nar .byte z.toInt32) := by
  refine ⟨z.toBitVec.toNat, z.toBitVec.isLt, ?_⟩
  rw [← i8_tab _ z.toBitVec.isLt]
  congr 2
  apply i8_eq
  show z.toBitVec = BitVec.ofNat 8 z.toBitVec.toNat
  rw [BitVec.ofNat_toNat, BitVec.setWidth_eq]
def b24 (a : Int32) : Int32 := vp_nar .byte ((a >>> ((24 : Int32) &&& 31)).toInt8.toInt32)
def b16 (a : Int32) : Int32 := vp_nar .byte ((a >>> ((16 : Int32) &&& 31)).toInt8.toInt32)
def b08 (a : Int32) : Int32 := vp_nar .byte ((a >>> ((8 : Int32) &&& 31)).toInt8.toInt32)
def b00 (a : Int32) : Int32 := vp_nar .byte (a.toInt8.toInt32)
def put4 (A : Nat → Int32) (n : Nat) (a : Int32) : Nat → Int32 := fun i => if i = n + 3 then b00 a else if i = n + 2 then b08 a else if i = n + 1 then b16 a else if i = n then b24 a else A i
def aM (M : x_m) (n : Nat) (a : Int32) : x_m := (fun x y => if x = 1 ∧ y = 1 then xI (n + 4) else M.1 x y, fun x => if x = 2 then put4 (M.2.1 2) n a else M.2.1 x, M.2.2)
def aR (R : x_m) (n : Nat) (a : Int32) : x_m := (fun x y => if x = 387 ∧ y = 4 then xI (n + 4) else R.1 x y, fun x => if x = 388 then put4 (R.2.1 388) n a else R.2.1 x, R.2.2)
theorem lay_eq {R : x_m} {n : Nat} (a : Int32) (h : R.1 387 4 = xI n) (hn : n + 4 ≤ 65536) : F_MD_lay a R = some (aR R n a) := by
  unfold F_MD_lay
  simp only [xw_A1, h]
  rw [show (1 : Int32) = xI 1 from rfl, show (2 : Int32) = xI 2 from rfl, show (3 : Int32) = xI 3 from rfl, show (4 : Int32) = xI 4 from rfl]
  simp only [xI_add]
  rw [xI_ix (by omega), if_pos (show decide (n < 65536) = true by simp; omega), xI_ix (by omega), if_pos (show decide (n + 1 < 65536) = true by simp; omega), xI_ix (by omega), if_pos (show decide (n + 2 < 65536) = true by simp; omega), xI_ix (by omega), if_pos (show decide (n + 3 < 65536) = true by simp; omega), xI_cl (by omega), xI_cl (by omega), xI_cl (by omega), xI_cl (by omega)]
  congr 1
  refine Prod.ext rfl (Prod.ext ?_ rfl)
  funext x i
  show (if x = 388 ∧ i = n + 3 then b00 a else if x = 388 ∧ i = n + 2 then b08 a else if x = 388 ∧ i = n + 1 then b16 a else if x = 388 ∧ i = n then b24 a else R.2.1 x i) = (if x = 388 then put4 (R.2.1 388) n a else R.2.1 x) i
  by_cases hx : x = 388
  · subst hx
    simp only [true_and, if_true]
    rfl
  · simp only [hx, false_and, if_false]
theorem four_eq {M : x_m} {n : Nat} (a : Int32) (h : M.1 1 1 = xI n) (hn : n + 4 ≤ 65536) : F_TX_addFour a M = some (aM M n a) := by
  unfold F_TX_addFour
  have st : ∀ (f k : Nat) (s s' : Int32) (v : Int32) (m : x_m), m.1 1 1 = xI k → k < 65536 → ¬ s < 0 → s + (-8) = s' → vp_nar .byte (((a.toUInt32 >>> (s.toUInt32 &&& Int32.toUInt32 31)).toInt32).toInt8.toInt32) = v → B_TX_addFour_3 (f + 1) a s m = B_TX_addFour_3 f a s' (x_wS (x_wA m 2 k v) 1 1 (xI (k + 1))) := by
    intro f k s s' v m hm hk hs hs' hv
    rw [B_TX_addFour_3, if_neg hs, hm, if_neg (by show ¬ (xI 65536 ≤ _); rw [xI_le (by omega) (by omega)]; omega), xI_ix (by omega), if_pos (show decide (k < 65536) = true by simp; omega), xI_cl (by omega), hv, hs', xw_A1, hm, xI_add1]
  rw [show x_fu = 199995 + 1 + 1 + 1 + 1 + 1 from rfl]
  rw [st _ n 24 16 (b24 a) M h (by omega) (by decide) (by decide) (by unfold b24; rw [sh24])]
  rw [st _ (n + 1) 16 8 (b16 a) _ (wS_same _ _ _ _) (by omega) (by decide) (by decide) (by unfold b16; rw [sh16])]
  rw [st _ (n + 1 + 1) 8 0 (b08 a) _ (wS_same _ _ _ _) (by omega) (by decide) (by decide) (by unfold b08; rw [sh8])]
  rw [st _ (n + 1 + 1 + 1) 0 (-8) (b00 a) _ (wS_same _ _ _ _) (by omega) (by decide) (by decide) (by unfold b00; rw [sh0])]
  rw [B_TX_addFour_3, if_pos (by decide)]
  unfold B_TX_addFour_45
  congr 1
  refine Prod.ext ?_ (Prod.ext ?_ rfl)
  · funext x y
    show (if x = 1 ∧ y = 1 then xI (n + 4) else if x = 1 ∧ y = 1 then _ else if x = 1 ∧ y = 1 then _ else if x = 1 ∧ y = 1 then _ else M.1 x y) = (if x = 1 ∧ y = 1 then xI (n + 4) else M.1 x y)
    by_cases z : x = 1 ∧ y = 1
    · rw [if_pos z, if_pos z]
    · rw [if_neg z, if_neg z, if_neg z, if_neg z, if_neg z]
  · funext x i
    show (if x = 2 ∧ i = n + 3 then b00 a else if x = 2 ∧ i = n + 2 then b08 a else if x = 2 ∧ i = n + 1 then b16 a else if x = 2 ∧ i = n then b24 a else M.2.1 x i) = (if x = 2 then put4 (M.2.1 2) n a else M.2.1 x) i
    by_cases hx : x = 2
    · subst hx
      simp only [true_and, if_true]
      rfl
    · simp only [hx, false_and, if_false]
theorem SR_put {M R : x_m} {n : Nat} (h : SR M R n) (hn : n + 4 ≤ 20000) (a : Int32) : SR (aM M n a) (aR R n a) (n + 4) := by
  obtain ⟨D, Ms, q, q2, r, r2, hc, a1, a2, a3, a4, a5⟩ := h
  have hq := hc.hq
  have hr := hc.hr
  have m1 : ∀ x y, x ≠ 1 → (aM M n a).1 x y = M.1 x y := fun x y z => by
    show (if x = 1 ∧ y = 1 then _ else _) = _
    rw [if_neg (by omega)]
  have m2 : ∀ x, x ≠ 2 → (aM M n a).2.1 x = M.2.1 x := fun x z => by
    show (if x = 2 then _ else _) = _
    rw [if_neg z]
  have n1 : ∀ x y, ¬ (x = 387 ∧ y = 4) → (aR R n a).1 x y = R.1 x y := fun x y z => by
    show (if x = 387 ∧ y = 4 then _ else _) = _
    rw [if_neg z]
  have n2 : ∀ x, x ≠ 388 → (aR R n a).2.1 x = R.2.1 x := fun x z => by
    show (if x = 388 then _ else _) = _
    rw [if_neg z]
  refine ⟨D, Ms, q, q2, r, r2, ⟨?_, ?_, ?_, ?_, hc.q3, hc.q4, hc.r21, hc.r22, hc.hq, hc.hr, ?_, ?_⟩, hn, ?_, ?_, ?_, ?_⟩
  · intro j
    show isB (put4 (M.2.1 2) n a j)
    unfold put4 b00 b08 b16 b24
    split
    · exact byte_ok _
    · split
      · exact byte_ok _
      · split
        · exact byte_ok _
        · split
          · exact byte_ok _
          · exact hc.tb j
  · show put4 (R.2.1 388) n a = put4 (M.2.1 2) n a
    rw [hc.tt]
  · unfold NK
    rw [m2 _ (by omega), m2 _ (by omega), n2 _ (by omega), n2 _ (by omega)]; exact hc.nk
  · unfold Zd
    rw [m1 _ _ (by omega), m1 _ _ (by omega), n1 _ _ (by omega), n1 _ _ (by omega)]; exact hc.zd
  · rw [n1 _ _ (by omega), m1 _ _ (by omega)]
    rcases hc.ask with ⟨b1, b2⟩ | ⟨b1, b2, b3⟩
    · left
      unfold CLR
      rw [m1 _ _ (by omega), m1 _ _ (by omega), m1 _ _ (by omega), m1 _ _ (by omega)]; exact ⟨b1, b2⟩
    · right
      exact ⟨b1, b2, QR_k b3 (by omega) hc.zd.2.2.1 (fun a b x y => m1 _ _ (by omega)) (fun a x y => m2 _ (by omega)) (fun d _ => m1 _ _ (by omega)) (fun a b x y => n1 _ _ (by omega)) (fun a x y => n2 _ (by omega))⟩
  · rw [n1 _ _ (by omega), m1 _ _ (by omega)]
    rcases hc.opn with ⟨b1, b2, b3⟩ | ⟨b1, b2, b3⟩
    · exact Or.inl ⟨b1, b2, NewC_k b3 hc.zd.2.2.1 (fun a b x y => m1 _ _ (by omega)) (fun a x y => m2 _ (by omega)) (fun a x y => n2 _ (by omega))⟩
    · exact Or.inr ⟨b1, b2, OpC_k b3 hc.zd.2.2.1 (fun a b x y => m1 _ _ (by omega)) (fun a x y => m2 _ (by omega)) (fun a x y => n2 _ (by omega))⟩
  · rfl
  · rfl
  · rw [m1 _ _ (by omega), n1 _ _ (by omega)]; exact a4
  · rw [m1 _ _ (by omega), n1 _ _ (by omega)]; exact a5
theorem FC_aM (M : x_m) (n : Nat) (a : Int32) : FC M (aM M n a) := ⟨fun x y z => by
    show (if x = 1 ∧ y = 1 then _ else _) = _
    rw [if_neg (by omega)], fun x z => by
    show (if x = 2 then _ else _) = _
    rw [if_neg (by omega)], fun _ _ _ => rfl⟩
theorem FR_aR (M : x_m) (n : Nat) (a : Int32) : FR M (aR M n a) := ⟨fun x y z => by
    show (if x = 387 ∧ y = 4 then _ else _) = _
    rw [if_neg (by omega)], fun x z => by
    show (if x = 388 then _ else _) = _
    rw [if_neg (by omega)], fun _ _ _ _ => rfl, rfl⟩
theorem aR_len (R : x_m) (n : Nat) (a : Int32) : (aR R n a).1 387 4 = xI (n + 4) := rfl
theorem aM_len (M : x_m) (n : Nat) (a : Int32) : (aM M n a).1 1 1 = xI (n + 4) := rfl
theorem aR_1 (R : x_m) (n : Nat) (a : Int32) : (aR R n a).1 387 1 = R.1 387 1 := rfl
theorem LO_feed {M R : x_m} {n : Nat} (h : SR M R n) (hn : n + 20 ≤ 20000) (a b c d e : Int32) : LO (n + 20) M R (F_LW_feed a b c d e M) (F_MD_feed a b c d e R) := by
  have h1 := SR_1 h 0
  have fr1 : FR R (x_wS R 387 1 0) := FR_S _ _ (by omega)
  have w1 : (x_wS R 387 1 0).1 387 1 = 0 := wS_same _ _ _ _
  have s1 := SR_put h1 (by omega) a
  have s2 := SR_put s1 (by omega) b
  have s3 := SR_put s2 (by omega) c
  have s4 := SR_put s3 (by omega) d
  have s5 := SR_put s4 (by omega) e
  obtain ⟨D, Ms, q, q2, r, r2, hc, a1, a2, a3, a4, a5⟩ := h
  have r0 : (x_wS R 387 1 0).1 387 4 = xI n := a3
  unfold F_LW_feed F_QR_feed F_MD_feed B_MD_feed_18
  rw [a2, if_pos (show xI n ≤ 65516 by show xI n ≤ xI 65516; rw [xI_le (by omega) (by omega)]; omega), a3, if_pos (show xI n + 20 ≤ 65536 by show xI n + xI 20 ≤ xI 65536; rw [xI_add, xI_le (by omega) (by omega)]; omega), w1, if_pos (by decide), four_eq a a2 (by omega), lay_eq a r0 (by omega), Option.bind_some, Option.bind_some, four_eq b (aM_len _ _ _) (by omega), lay_eq b (aR_len _ _ _) (by omega), Option.bind_some, Option.bind_some, four_eq c (aM_len _ _ _) (by omega), lay_eq c (aR_len _ _ _) (by omega), Option.bind_some, Option.bind_some, four_eq d (aM_len _ _ _) (by omega), lay_eq d (aR_len _ _ _) (by omega), Option.bind_some, Option.bind_some, four_eq e (aM_len _ _ _) (by omega), lay_eq e (aR_len _ _ _) (by omega), Option.bind_some, Option.bind_some, Option.bind_some, aM_len, aR_len]
  refine ⟨0, _, _, _, rfl, rfl, ?_, fun _ => wL_same _ _, SR_L s5 _, ?_, ?_⟩
  · rw [aR_1, aR_1, aR_1, aR_1, aR_1]; exact w1
  · exact FC_trans (FC_aM _ _ _) (FC_trans (FC_aM _ _ _) (FC_trans (FC_aM _ _ _) (FC_trans (FC_aM _ _ _) (FC_trans (FC_aM _ _ _) (FC_L _ _)))))
  · exact FR_trans fr1 (FR_trans (FR_aR _ _ _) (FR_trans (FR_aR _ _ _) (FR_trans (FR_aR _ _ _) (FR_trans (FR_aR _ _ _) (FR_aR _ _ _)))))
