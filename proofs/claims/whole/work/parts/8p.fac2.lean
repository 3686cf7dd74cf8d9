/-! counts, items, groups, sets, dimensions -/
theorem LO_count {M R : x_m} {n : Nat} (h : SR M R n) (a : Int32) : LO n M R (F_LW_count a M) (F_MD_count a R) := by
  have h' := h
  obtain ⟨D, Ms, q, q2, r, r2, hc, a1, a2, a3, a4, a5⟩ := h'
  have hq := hc.hq
  have hr := hc.hr
  have q2' : q2 = 115 ∨ q2 = 251 := by omega
  have r2' : r2 = 395 ∨ r2 = 409 := by omega
  have er : ∀ b, (x_wS R 387 1 0).1 r2 b = R.1 r2 b := by
    intro b
    show (if r2 = 387 ∧ b = 1 then _ else _) = _
    rw [if_neg (by omega)]
  unfold F_LW_count F_QR_count F_MD_count B_MD_count_11 B_MD_count_16 B_MD_count_101 B_MD_count_120 B_MD_count_139 B_MD_count_158
  rw [hc.q3, if_pos (y_qb q2')]
  simp only [ref_1, show (x_wS R 387 1 0).2.2.1 387 21 = r2 from hc.r21, y_mq r2', if_true, er, show (x_wS R 387 1 0).1 387 13 = R.1 387 13 from rfl, show (x_wS R 387 1 0).1 387 18 = R.1 387 18 from rfl, show (x_wS R 387 1 0).1 387 4 = R.1 387 4 from rfl, show (x_wS R 387 1 0).1 387 23 = R.1 387 23 from rfl]
  have Q : ∀ b c : Nat, (R.1 387 23 = 0 → M.1 q2 b = 0) → (QR M R q2 r2 D → M.1 q2 b = R.1 r2 c) → (if R.1 387 23 = 0 then some ((0 : Int32), x_wS R 387 1 0) else some (R.1 r2 c, x_wS R 387 1 0)) = some (M.1 q2 b, x_wS R 387 1 0) := by
    intro b c x y
    rcases hc.ask with ⟨b1, b2⟩ | ⟨b1, b2, b3⟩
    · rw [if_pos b1, x b1]
    · rw [if_neg (by rw [b1]; decide), y b3]
  have Q6 : (if R.1 387 23 = 0 then some ((0 : Int32), x_wS R 387 1 0) else some (R.1 r2 13, x_wS R 387 1 0)) = some (M.1 (q2 + 6) 0, x_wS R 387 1 0) := by
    rcases hc.ask with ⟨b1, b2⟩ | ⟨b1, b2, b3⟩
    · rw [if_pos b1, b2.2.2.2]
    · obtain ⟨ni, ng, ns, cc, jc, sn, fs, G, x1, x2, x3, x4, x5, x6, x7, x8⟩ := b3
      rw [if_neg (by rw [b1]; decide), x8.1.1, x8.2.1]
  have clr : R.1 387 23 = 0 → CLR M q2 := by
    intro z
    rcases hc.ask with ⟨b1, b2⟩ | ⟨b1, b2, b3⟩
    · exact b2
    · rw [b1] at z; exact absurd z (by decide)
  have Q3 := Q 0 0 (fun z => (clr z).1) (fun ⟨ni, ng, ns, cc, jc, sn, fs, G, x1, x2, x3, x4, x5, x6, x7, x8⟩ => by rw [x2.2.1, x2.2.2.1])
  have Q4 := Q 4 4 (fun z => (clr z).2.1) (fun ⟨ni, ng, ns, cc, jc, sn, fs, G, x1, x2, x3, x4, x5, x6, x7, x8⟩ => by rw [x3.2.1, x3.2.2.1])
  have Q5 := Q 6 9 (fun z => (clr z).2.2.1) (fun ⟨ni, ng, ns, cc, jc, sn, fs, G, x1, x2, x3, x4, x5, x6, x7, x8⟩ => by rw [x5, x6])
  rw [Q3, Q4, Q5, Q6, hc.zd.2.1, hc.zd.2.2.2.2.1, a3, ← hc.zd.1, ← hc.zd.2.2.2.1, ← a2]
  have val : ∀ v : Int32, LO n M R ((some ((Sum.inl v : Int32 ⊕ Bool), M)).bind fun r => x_w1 true r) (some (v, x_wS R 387 1 0)) := fun v => LO_v1 (n := n) true v rfl rfl h (FC_refl _) (FR_refl _)
  have bad : LO n M R ((some ((Sum.inr true : Int32 ⊕ Bool), M)).bind fun r => x_w1 true r) (some (0, x_wS R 387 1 1)) := LO_x1 true _ rfl rfl h
  by_cases z0 : a = 0
  · subst z0; simp +decide only [if_true, if_false]; exact val _
  by_cases z1 : a = 1
  · subst z1; simp +decide only [if_true, if_false]; exact val _
  by_cases z2 : a = 2
  · subst z2; simp +decide only [if_true, if_false]; exact val _
  by_cases z3 : a = 3
  · subst z3; simp +decide only [if_true, if_false]; exact val _
  by_cases z4 : a = 4
  · subst z4; simp +decide only [if_true, if_false]; exact val _
  by_cases z5 : a = 5
  · subst z5; simp +decide only [if_true, if_false]; exact val _
  by_cases z6 : a = 6
  · subst z6; simp +decide only [if_true, if_false]; exact val _
  rw [if_neg z0, if_neg z1, if_neg z2, if_neg z3, if_neg z4, if_neg z5, if_neg z6]
  simp only [show ((1 : Int32) ≤ 0) = False from by decide, if_false]
  by_cases zn : a < 0
  · rw [if_pos zn]; exact bad
  · obtain ⟨d, d1, d2⟩ := nn_ex a zn
    have : 6 < d := by
      rcases Nat.lt_or_ge 6 d with y | y
      · exact y
      · exfalso
        have : d = 0 ∨ d = 1 ∨ d = 2 ∨ d = 3 ∨ d = 4 ∨ d = 5 ∨ d = 6 := by omega
        rcases this with e | e | e | e | e | e | e <;> subst e
        · exact z0 d2
        · exact z1 d2
        · exact z2 d2
        · exact z3 d2
        · exact z4 d2
        · exact z5 d2
        · exact z6 d2
    rw [if_neg zn, if_neg (by rw [d2]; show ¬ (xI d ≤ xI 6); rw [xI_le (by omega) (by omega)]; omega)]
    exact bad
theorem LO_item {M R : x_m} {n : Nat} (h : SR M R n) (a w : Int32) : LO n M R (F_LW_item a w M) (F_MD_item2 a w R) := by
  have h' := h
  obtain ⟨D, Ms, q, q2, r, r2, hc, a1, a2, a3, a4, a5⟩ := h'
  have hq := hc.hq
  have hr := hc.hr
  have q2' : q2 = 115 ∨ q2 = 251 := by omega
  have r2' : r2 = 395 ∨ r2 = 409 := by omega
  have bad : LO n M R ((some ((Sum.inr true : Int32 ⊕ Bool), M)).bind fun r => x_w1 true r) (some (0, x_wS R 387 1 1)) := LO_x1 true _ rfl rfl h
  have val : ∀ v : Int32, LO n M R ((some ((Sum.inl v : Int32 ⊕ Bool), M)).bind fun r => x_w1 true r) (some (v, x_wS R 387 1 0)) := fun v => LO_v1 (n := n) true v rfl rfl h (FC_refl _) (FR_refl _)
  unfold F_LW_item F_QR_item F_MD_item2 B_QR_item_33 B_QR_item_29 B_QR_item_34 B_QR_item_56 B_MD_item2_36 B_MD_item2_32 B_MD_item2_37 B_MD_item2_76
  rw [hc.q3, if_pos (y_qb q2'), hc.r21]
  simp only [ref_1, show (x_wS R 387 1 0).2.2.1 387 21 = r2 from hc.r21, y_mq r2', if_true, show ((1 : Int32) ≤ 0) = False from by decide, show ((1 : Int32) = 0) = False from by decide, show ((0 : Int32) ≤ 0) = True from by decide, if_false]
  by_cases zn : a < 0
  · simp only [if_pos zn]
    split <;> exact bad
  · obtain ⟨d, d1, d2⟩ := nn_ex a zn
    subst d2
    simp only [if_neg zn]
    rcases hc.ask with ⟨b1, b2⟩ | ⟨b1, b2, b3⟩
    · rw [if_pos b1, b2.1, if_pos (xI_nonneg d1)]; exact bad
    · obtain ⟨ni, ng, ns, cc, jc, sn, fs, G, x1, ⟨y1, y2, y3, y4⟩, _⟩ := b3
      rw [if_neg (show ¬ R.1 387 23 = 0 by rw [b1]; decide), y2, y3]
      simp only [xI_le (a := ni) (b := d) (by omega) d1]
      by_cases zl : ni ≤ d
      · rw [if_pos zl, if_pos zl]; exact bad
      · obtain ⟨⟨t, t1, t2, t3⟩, t4, _⟩ := y4 d (by omega)
        rw [if_neg zl, if_neg zl, xI_ix d1]
        simp only [show (decide (d < 24) = true) = True from by simp; omega, if_true, xI_cl d1]
        have e1 : (x_wS R 387 1 0).2.1 (r2 + 1) d = M.2.1 (q2 + 1) d := by rw [t2]; exact t3
        have e2 : (x_wS R 387 1 0).2.1 (r2 + 2) d = M.2.1 (q2 + 2) d := t4.symm
        rw [e1, e2]
        by_cases w0 : w = 0
        · simp only [if_pos w0]; exact val _
        · by_cases w1 : w = 1
          · simp only [if_neg w0, if_pos w1]; exact val _
          · simp only [if_neg w0, if_neg w1]; exact bad
theorem LO_group {M R : x_m} {n : Nat} (h : SR M R n) (a : Int32) : LO n M R (F_LW_group a M) (F_MD_group a R) := by
  have h' := h
  obtain ⟨D, Ms, q, q2, r, r2, hc, a1, a2, a3, a4, a5⟩ := h'
  have hq := hc.hq
  have hr := hc.hr
  have q2' : q2 = 115 ∨ q2 = 251 := by omega
  have r2' : r2 = 395 ∨ r2 = 409 := by omega
  have bad : LO n M R ((some ((Sum.inr true : Int32 ⊕ Bool), M)).bind fun r => x_w1 true r) (some (0, x_wS R 387 1 1)) := LO_x1 true _ rfl rfl h
  have val : ∀ v : Int32, LO n M R ((some ((Sum.inl v : Int32 ⊕ Bool), M)).bind fun r => x_w1 true r) (some (v, x_wS R 387 1 0)) := fun v => LO_v1 (n := n) true v rfl rfl h (FC_refl _) (FR_refl _)
  unfold F_LW_group F_QR_group F_MD_group B_QR_group_24 B_QR_group_25 B_MD_group_27 B_MD_group_28 B_MD_group_51
  rw [hc.q3, if_pos (y_qb q2'), hc.r21]
  simp only [ref_1, show (x_wS R 387 1 0).2.2.1 387 21 = r2 from hc.r21, y_mq r2', if_true, show ((1 : Int32) ≤ 0) = False from by decide, show ((1 : Int32) = 0) = False from by decide, show ((0 : Int32) ≤ 0) = True from by decide, if_false]
  by_cases zn : a < 0
  · simp only [if_pos zn]
    split <;> exact bad
  · obtain ⟨d, d1, d2⟩ := nn_ex a zn
    subst d2
    simp only [if_neg zn]
    rcases hc.ask with ⟨b1, b2⟩ | ⟨b1, b2, b3⟩
    · rw [if_pos b1, b2.2.1, if_pos (xI_nonneg d1)]; exact bad
    · obtain ⟨ni, ng, ns, cc, jc, sn, fs, G, x1, _, ⟨y1, y2, y3, y4⟩, _⟩ := b3
      rw [if_neg (show ¬ R.1 387 23 = 0 by rw [b1]; decide), y2, y3]
      simp only [xI_le (a := ng) (b := d) (by omega) d1]
      by_cases zl : ng ≤ d
      · rw [if_pos zl, if_pos zl]; exact bad
      · rw [if_neg zl, if_neg zl, xI_ix d1]
        simp only [show (decide (d < 8) = true) = True from by simp; omega, if_true, xI_cl d1]
        rw [show (x_wS R 387 1 0).2.1 (r2 + 4) d = M.2.1 (q2 + 4) d from (y4 d (by omega)).symm]
        exact val _
theorem LO_set {M R : x_m} {n : Nat} (h : SR M R n) (a : Int32) : LO n M R (F_LW_set a M) (F_MD_set a R) := by
  have h' := h
  obtain ⟨D, Ms, q, q2, r, r2, hc, a1, a2, a3, a4, a5⟩ := h'
  have hq := hc.hq
  have hr := hc.hr
  have q2' : q2 = 115 ∨ q2 = 251 := by omega
  have r2' : r2 = 395 ∨ r2 = 409 := by omega
  have bad : LO n M R ((some ((Sum.inr true : Int32 ⊕ Bool), M)).bind fun r => x_w1 true r) (some (0, x_wS R 387 1 1)) := LO_x1 true _ rfl rfl h
  have val : ∀ v : Int32, LO n M R ((some ((Sum.inl v : Int32 ⊕ Bool), M)).bind fun r => x_w1 true r) (some (v, x_wS R 387 1 0)) := fun v => LO_v1 (n := n) true v rfl rfl h (FC_refl _) (FR_refl _)
  unfold F_LW_set F_QR_set F_MD_set B_QR_set_24 B_QR_set_25 B_MD_set_27 B_MD_set_28 B_MD_set_51
  rw [hc.q3, if_pos (y_qb q2'), hc.r21]
  simp only [ref_1, show (x_wS R 387 1 0).2.2.1 387 21 = r2 from hc.r21, y_mq r2', if_true, show ((1 : Int32) ≤ 0) = False from by decide, show ((1 : Int32) = 0) = False from by decide, show ((0 : Int32) ≤ 0) = True from by decide, if_false]
  by_cases zn : a < 0
  · simp only [if_pos zn]
    split <;> exact bad
  · obtain ⟨d, d1, d2⟩ := nn_ex a zn
    subst d2
    simp only [if_neg zn]
    rcases hc.ask with ⟨b1, b2⟩ | ⟨b1, b2, b3⟩
    · rw [if_pos b1, b2.2.2.1, if_pos (xI_nonneg d1)]; exact bad
    · obtain ⟨ni, ng, ns, cc, jc, sn, fs, G, x1, _, _, y1, y2, y3, y4, _⟩ := b3
      rw [if_neg (show ¬ R.1 387 23 = 0 by rw [b1]; decide), y2, y3]
      simp only [xI_le (a := ns) (b := d) (by omega) d1]
      by_cases zl : ns ≤ d
      · rw [if_pos zl, if_pos zl]; exact bad
      · rw [if_neg zl, if_neg zl, xI_ix d1]
        simp only [show (decide (d < 32) = true) = True from by simp; omega, if_true, xI_cl d1]
        rw [show (x_wS R 387 1 0).2.1 (r2 + 7) d = M.2.1 (q2 + 5) d from (y4 d (by omega)).2.trans (y4 d (by omega)).1.symm]
        exact val _
