/-! the face in step -/
theorem nn_ex (a : Int32) (h : ¬ a < 0) : ∃ d, d < 2147483648 ∧ a = xI d := by
  have h0 : 0 ≤ a.toInt := by
    have := Int32.not_lt.mp h
    exact Int32.le_iff_toInt_le.mp this
  have h1 := Int32.toInt_lt a
  refine ⟨a.toInt.toNat, by omega, ?_⟩
  apply Int32.toInt_inj.mp
  unfold xI
  rw [Int32.toInt_ofNat_of_lt (by omega)]
  omega
def LO (n' : Nat) (M R : x_m) (W : Option (Int32 × x_m)) (S : Option (Int32 × x_m)) : Prop := ∃ code M' v R', W = some (code, M') ∧ S = some (v, R') ∧ R'.1 387 1 = code ∧ (code = 0 → M'.2.2.2 424 0 = v.toInt64) ∧ SR M' R' n' ∧ FC M M' ∧ FR R R'
theorem SR_L {M R : x_m} {n : Nat} (h : SR M R n) (v : Int64) : SR (x_wL M 424 0 v) R n := by
  obtain ⟨D, Ms, q, q2, r, r2, hc, a1, a2, a3, a4, a5⟩ := h
  exact ⟨D, Ms, q, q2, r, r2, CO_x hc (fun _ _ _ => rfl) rfl (fun _ _ => rfl) (fun _ _ _ => rfl) rfl (fun _ _ => rfl), a1, a2, a3, a4, a5⟩
theorem wL_same (m : x_m) (v : Int64) : (x_wL m 424 0 v).2.2.2 424 0 = v := by
  show (if 424 = 424 ∧ 0 = 0 then v else m.2.2.2 424 0) = v
  rw [if_pos ⟨rfl, rfl⟩]
theorem FC_L (m : x_m) (v : Int64) : FC m (x_wL m 424 0 v) := ⟨fun _ _ _ => rfl, fun _ _ => rfl, fun _ _ _ => rfl⟩
theorem LO_v1 {n n' : Nat} {M R M' R' : x_m} {C : Option ((Int32 ⊕ Bool) × x_m)} {S : Option (Int32 × x_m)} (b : Bool) (v : Int32) (hC : C = some (.inl v, M')) (hS : S = some (v, x_wS R' 387 1 0)) (h : SR M' R' n') (f : FC M M') (g : FR R R') : LO n' M R (C.bind fun r => x_w1 b r) S := by
  subst hC; subst hS
  exact ⟨0, x_wL M' 424 0 v.toInt64, v, x_wS R' 387 1 0, rfl, rfl, wS_same _ _ _ _, fun _ => wL_same _ _, SR_L (SR_1 h 0) _, FC_trans f (FC_L _ _), FR_trans g (FR_S _ _ (by omega))⟩
theorem LO_x1 {n : Nat} {M R : x_m} {C : Option ((Int32 ⊕ Bool) × x_m)} {S : Option (Int32 × x_m)} (b : Bool) (w : Int32) (hC : C = some (.inr b, M)) (hS : S = some (w, x_wS R 387 1 1)) (h : SR M R n) : LO n M R (C.bind fun r => x_w1 b r) S := by
  subst hC; subst hS
  refine ⟨1, M, w, x_wS R 387 1 1, ?_, rfl, wS_same _ _ _ _, fun z => absurd z (by decide), SR_1 h 1, FC_refl _, FR_S _ _ (by omega)⟩
  show (if b = b then _ else _) = _
  rw [if_pos rfl]
theorem LO_v2 {n' : Nat} {M R M' R' : x_m} {C : Option ((Int32 ⊕ Bool) × x_m)} {S : Option (Int32 × x_m)} (v : Int32) (hC : C = some (.inl v, M')) (hS : S = some (v, x_wS R' 387 1 0)) (h : SR M' R' n') (f : FC M M') (g : FR R R') : LO n' M R (C.bind fun r => x_w2 r) S := by
  subst hC; subst hS
  exact ⟨0, x_wL M' 424 0 v.toInt64, v, x_wS R' 387 1 0, rfl, rfl, wS_same _ _ _ _, fun _ => wL_same _ _, SR_L (SR_1 h 0) _, FC_trans f (FC_L _ _), FR_trans g (FR_S _ _ (by omega))⟩
theorem LO_x2 {n : Nat} {M R : x_m} {C : Option ((Int32 ⊕ Bool) × x_m)} {S : Option (Int32 × x_m)} (b : Bool) (w : Int32) (hC : C = some (.inr b, M)) (hS : S = some (w, x_wS R 387 1 (if b = true then 1 else 2))) (h : SR M R n) : LO n M R (C.bind fun r => x_w2 r) S := by
  subst hC; subst hS
  refine ⟨if b = true then 1 else 2, M, w, _, ?_, rfl, wS_same _ _ _ _, fun z => ?_, SR_1 h _, FC_refl _, FR_S _ _ (by omega)⟩
  · cases b <;> rfl
  · cases b <;> exact absurd z (by decide)
theorem ref_1 (m : x_m) (v : Int32) : (x_wS m 387 1 v).1 387 1 = v := wS_same _ _ _ _
theorem LO_fault {M R : x_m} {n : Nat} (h : SR M R n) (a : Int32) : LO n M R (F_LW_fault a M) (F_MD_fault a R) := by
  have h' := h
  obtain ⟨D, Ms, q, q2, r, r2, hc, a1, a2, a3, a4, a5⟩ := h'
  unfold F_LW_fault F_QR_fault F_MD_fault B_QR_fault_9 B_QR_fault_14 B_QR_fault_38 B_MD_fault_10 B_MD_fault_15 B_MD_fault_44
  simp only [ref_1]
  have e5 : (x_wS R 387 1 0).1 387 5 = M.1 3 5 := a4.symm
  have e6 : (x_wS R 387 1 0).1 387 6 = M.1 3 6 := a5.symm
  by_cases z0 : a = 0
  · simp only [if_pos z0, show ((1 : Int32) = 0) = False from by decide, if_false, show ((0 : Int32) ≤ 0) = True from by decide, if_true]
    exact LO_v1 (n := n) true _ rfl (by rw [e5]) h (FC_refl _) (FR_refl _)
  · by_cases z1 : a = 1
    · simp only [if_neg z0, if_pos z1, show ((1 : Int32) = 0) = False from by decide, if_false, show ((0 : Int32) ≤ 0) = True from by decide, if_true]
      exact LO_v1 (n := n) true _ rfl (by rw [e6]) h (FC_refl _) (FR_refl _)
    · simp only [if_neg z0, if_neg z1, if_true, show ((1 : Int32) ≤ 0) = False from by decide, if_false]
      exact LO_x1 true _ rfl rfl h
theorem LO_trim {M R : x_m} {n : Nat} (h : SR M R n) (a : Int32) : ∃ n', n' ≤ n ∧ LO n' M R (F_LW_trim a M) (F_MD_trim a R) := by
  have h' := h
  obtain ⟨D, Ms, q, q2, r, r2, hc, a1, a2, a3, a4, a5⟩ := h'
  unfold F_LW_trim F_QR_trim F_MD_trim B_QR_trim_25 B_QR_trim_26 B_MD_trim_19 B_MD_trim_24
  simp only [ref_1]
  have bad : LO n M R ((some ((Sum.inr true : Int32 ⊕ Bool), M)).bind fun r => x_w1 true r) (some (0, x_wS R 387 1 1)) := LO_x1 true _ rfl rfl h
  by_cases z0 : a < 0
  · simp only [if_pos z0, if_true, show ((1 : Int32) ≤ 0) = False from by decide, if_false]
    exact ⟨n, Nat.le_refl _, bad⟩
  · obtain ⟨d, d1, d2⟩ := nn_ex a z0
    by_cases z1 : 20 < a
    · simp only [if_neg z0, if_pos z1, if_true, show ((1 : Int32) ≤ 0) = False from by decide, if_false]
      exact ⟨n, Nat.le_refl _, bad⟩
    · simp only [if_neg z0, if_neg z1, a2, a3]
      subst d2
      simp only [xI_lt (a := n) (b := d) (by omega) (by omega), xI_le (a := d) (b := n) (by omega) (by omega)]
      by_cases z2 : n < d
      · simp only [if_pos z2, if_neg (show ¬ d ≤ n by omega), if_true, show ((1 : Int32) ≤ 0) = False from by decide, if_false]
        exact ⟨n, Nat.le_refl _, bad⟩
      · simp only [if_neg z2, if_pos (show d ≤ n by omega), show ((1 : Int32) = 0) = False from by decide, if_false, show ((0 : Int32) ≤ 0) = True from by decide, if_true, wS_same]
        have e4 : (x_wS R 387 1 0).1 387 4 = xI n := a3
        rw [e4, xI_sub (by omega)]
        refine ⟨n - d, by omega, LO_v1 (n := n) (M' := x_wS M 1 1 (xI (n - d))) (R' := x_wS R 387 4 (xI (n - d))) true _ rfl ?_ ?_ (FC_S _ _ (by omega)) (FR_S _ _ (by omega))⟩
        · congr 2
          refine Prod.ext ?_ rfl
          funext a b
          show (if a = 387 ∧ b = 4 then _ else if a = 387 ∧ b = 1 then _ else _) = (if a = 387 ∧ b = 1 then _ else if a = 387 ∧ b = 4 then _ else _)
          by_cases y : a = 387 ∧ b = 4
          · rw [if_pos y, if_neg (by omega), if_pos y]
          · rw [if_neg y, if_neg y]
        · refine ⟨D, Ms, q, q2, r, r2, CO_x hc (fun a b x => ?_) rfl (fun _ _ => rfl) (fun a b x => ?_) rfl (fun _ _ => rfl), by omega, wS_same _ _ _ _, wS_same _ _ _ _, a4, a5⟩
          · show (if a = 1 ∧ b = 1 then _ else _) = _
            rw [if_neg (by omega)]
          · show (if a = 387 ∧ b = 4 then _ else _) = _
            rw [if_neg (by omega)]
