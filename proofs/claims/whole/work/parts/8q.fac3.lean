/-! dimensions, values, picks, letters -/
def ValD (M R : x_m) (d : Nat) : Prop := ∃ (L c : Nat) (ρ : Nat → Nat), (1 ≤ L ∧ L ≤ 4 ∧ c ≤ 1000 ∧ M.1 (9 + 13 * d) 0 = xI L ∧ R.2.1 389 d = xI L ∧ M.1 (9 + 13 * d) 1 = xI c ∧ R.2.1 390 d = xI c) ∧ (∀ i, i < c → ρ i < 1000 ∧ M.2.1 (15 + 13 * d) i = xI (ρ i)) ∧ (∀ l i, l < L → i < c → M.2.1 (11 + 13 * d + l) (ρ i) = R.2.1 391 (4000 * d + 4 * i + l))
theorem ValD_of {M R : x_m} {D Ms q q2 r r2 d : Nat} (h : CO M R D Ms q q2 r r2) (hd : d < D) : ValD M R d := by
  have hD := h.zd.2.2.1
  rcases h.opn with ⟨a1, a2, a3⟩ | ⟨a1, a2, a3⟩
  · obtain ⟨L, c, b1, b2, b3, b4, b5, b6, b7, b8, b9⟩ := a3.1 d hd
    exact ⟨L, c, fun i => i, ⟨b1, b2, b3, b4, b5, b6, b7⟩, fun i hi => ⟨(by show i < 1000; omega), (a3.2.1 d (by omega)).1 i (by omega)⟩, b9⟩
  · obtain ⟨L, c, ρ, K, pk, ⟨b1, b2, b3, b4, b5, b6, b7, b8⟩, c1, c2, _⟩ := a3 d hd
    exact ⟨L, c, ρ, ⟨b1, b2, b4, b5, b6, b7, b8⟩, c1, c2⟩
theorem hasD {M R : x_m} {D Ms q q2 r r2 : Nat} (h : CO M R D Ms q q2 r r2) (a : Int32) : (∃ d, d < D ∧ d < 8 ∧ a = xI d ∧ F_CT_hasDimension a M = some (1, M) ∧ F_MD_isDimension a R = some (1, R)) ∨ ((a < 0 ∨ ∃ d, D ≤ d ∧ d < 2147483648 ∧ a = xI d) ∧ F_CT_hasDimension a M = some (0, M) ∧ F_MD_isDimension a R = some (0, R)) := by
  have hD := h.zd.2.2.1
  unfold F_CT_hasDimension F_MD_isDimension B_CT_hasDimension_16 B_CT_hasDimension_17 B_MD_isDimension_16 B_MD_isDimension_17
  rw [h.zd.1, h.zd.2.1]
  by_cases z : a < 0
  · right
    rw [if_pos z, if_pos z, if_pos (by decide), if_pos (by decide)]
    exact ⟨Or.inl z, rfl, rfl⟩
  · obtain ⟨d, d1, d2⟩ := nn_ex a z
    subst d2
    rw [if_neg z, if_neg z]
    simp only [xI_le (a := D) (b := d) (by omega) d1]
    by_cases zl : D ≤ d
    · right
      rw [if_pos zl, if_pos zl, if_pos (by decide), if_pos (by decide)]
      exact ⟨Or.inr ⟨d, zl, d1, rfl⟩, rfl, rfl⟩
    · left
      rw [if_neg zl, if_neg zl, if_pos (by decide), if_pos (by decide)]
      exact ⟨d, by omega, by omega, rfl, rfl, rfl⟩
theorem LO_dimension {M R : x_m} {n : Nat} (h : SR M R n) (a w : Int32) : LO n M R (F_LW_dimension a w M) (F_MD_dimension2 a w R) := by
  have h' := h
  obtain ⟨D, Ms, q, q2, r, r2, hc, a1, a2, a3, a4, a5⟩ := h'
  have bad : LO n M R ((some ((Sum.inr true : Int32 ⊕ Bool), M)).bind fun r => x_w1 true r) (some (0, x_wS R 387 1 1)) := LO_x1 true _ rfl rfl h
  have val : ∀ v : Int32, LO n M R ((some ((Sum.inl v : Int32 ⊕ Bool), M)).bind fun r => x_w1 true r) (some (v, x_wS R 387 1 0)) := fun v => LO_v1 (n := n) true v rfl rfl h (FC_refl _) (FR_refl _)
  unfold F_LW_dimension F_QR_dimension F_MD_dimension2 B_QR_dimension_24 B_QR_dimension_20 B_QR_dimension_25 B_QR_dimension_53 B_MD_dimension2_22 B_MD_dimension2_18 B_MD_dimension2_23 B_MD_dimension2_56
  rcases hasD hc a with ⟨d, d1, d8, d2, d3, d4⟩ | ⟨_, d3, d4⟩
  · obtain ⟨L, c, ρ, ⟨b1, b2, b3, b4, b5, b6, b7⟩, _⟩ := ValD_of hc d1
    rw [d3, d4, Option.bind_some, Option.bind_some]
    subst d2
    simp only [ref_1, show ((1 : Int32) ≤ 0) = False from by decide, show ((1 : Int32) = 0) = False from by decide, show ((0 : Int32) ≤ 0) = True from by decide, if_false, if_true]
    rw [xI_ix (by omega), xI_cl (by omega), b4, b6, show (x_wS R 387 1 0).2.1 389 d = xI L from b5, show (x_wS R 387 1 0).2.1 390 d = xI c from b7]
    simp only [show (decide (d < 8) = true) = True from by simp; omega, if_true]
    by_cases w0 : w = 0
    · simp only [if_pos w0]; exact val _
    · by_cases w1 : w = 1
      · simp only [if_neg w0, if_pos w1]; exact val _
      · simp only [if_neg w0, if_neg w1]; exact bad
  · rw [d3, d4, Option.bind_some, Option.bind_some]
    simp only [ref_1, show ((1 : Int32) ≤ 0) = False from by decide, if_false, if_true]
    exact bad
theorem hasL {M : x_m} {d L : Nat} (hd : d < 8) (hL : L ≤ 4) (h0 : M.1 (9 + 13 * d) 0 = xI L) (h : F_CT_hasDimension (xI d) M = some (1, M)) (l : Int32) : (∃ l', l' < L ∧ l = xI l' ∧ F_CT_hasLevel (xI d) l M = some (1, M)) ∨ ((l < 0 ∨ ∃ l', L ≤ l' ∧ l' < 2147483648 ∧ l = xI l') ∧ F_CT_hasLevel (xI d) l M = some (0, M)) := by
  unfold F_CT_hasLevel B_CT_hasLevel_29 B_CT_hasLevel_30
  rw [h, Option.bind_some]
  simp only [show ((1 : Int32) = 0) = False from by decide, if_false, show x_b1 0 = true from rfl, show x_b1 1 = true from rfl, if_true]
  rw [xI_ix (by omega), if_pos (show decide (d < 8) = true by simp; omega), xI_cl (by omega), h0]
  by_cases z : l < 0
  · right
    rw [if_pos z]; exact ⟨Or.inl z, rfl⟩
  · obtain ⟨l', l1, l2⟩ := nn_ex l z
    subst l2
    rw [if_neg z]
    simp only [xI_le (a := L) (b := l') (by omega) l1]
    by_cases zl : L ≤ l'
    · right
      rw [if_pos zl]; exact ⟨Or.inr ⟨l', zl, l1, rfl⟩, rfl⟩
    · left
      rw [if_neg zl]; exact ⟨l', by omega, rfl, rfl⟩
theorem hasM {M : x_m} {d c : Nat} (hd : d < 8) (hc : c ≤ 1000) (h1 : M.1 (9 + 13 * d) 1 = xI c) (h : F_CT_hasDimension (xI d) M = some (1, M)) (p : Int32) : (∃ p', p' < c ∧ p = xI p' ∧ F_CT_hasMember (xI d) p M = some (1, M)) ∨ ((p < 0 ∨ ∃ p', c ≤ p' ∧ p' < 2147483648 ∧ p = xI p') ∧ F_CT_hasMember (xI d) p M = some (0, M)) := by
  unfold F_CT_hasMember B_CT_hasMember_29 B_CT_hasMember_30
  rw [h, Option.bind_some]
  simp only [show ((1 : Int32) = 0) = False from by decide, if_false, show x_b1 0 = true from rfl, show x_b1 1 = true from rfl, if_true]
  rw [xI_ix (by omega), if_pos (show decide (d < 8) = true by simp; omega), xI_cl (by omega), h1]
  by_cases z : p < 0
  · right
    rw [if_pos z]; exact ⟨Or.inl z, rfl⟩
  · obtain ⟨l', l1, l2⟩ := nn_ex p z
    subst l2
    rw [if_neg z]
    simp only [xI_le (a := c) (b := l') (by omega) l1]
    by_cases zl : c ≤ l'
    · right
      rw [if_pos zl]; exact ⟨Or.inr ⟨l', zl, l1, rfl⟩, rfl⟩
    · left
      rw [if_neg zl]; exact ⟨l', by omega, rfl, rfl⟩
theorem hasL_no {M R : x_m} (a l : Int32) (h : F_CT_hasDimension a M = some (0, M)) : F_CT_hasLevel a l M = some (0, M) := by
  unfold F_CT_hasLevel B_CT_hasLevel_29 B_CT_hasLevel_30
  rw [h, Option.bind_some]
  simp only [if_true, show x_b1 0 = true from rfl]
theorem hasM_no {M R : x_m} (a l : Int32) (h : F_CT_hasDimension a M = some (0, M)) : F_CT_hasMember a l M = some (0, M) := by
  unfold F_CT_hasMember B_CT_hasMember_29 B_CT_hasMember_30
  rw [h, Option.bind_some]
  simp only [if_true, show x_b1 0 = true from rfl]
/-- the reference's test of a value -/
theorem isV {R : x_m} {d L c : Nat} (hd : d < 8) (hL : L ≤ 4) (hc : c ≤ 1000) (h0 : R.2.1 389 d = xI L) (h1 : R.2.1 390 d = xI c) (h : F_MD_isDimension (xI d) R = some (1, R)) (l p : Int32) : F_MD_isValue (xI d) l p R = some (if l < 0 then 0 else if xI L ≤ l then 0 else if p < 0 then 0 else if xI c ≤ p then 0 else 1, R) := by
  unfold F_MD_isValue B_MD_isValue_40 B_MD_isValue_41
  rw [h, Option.bind_some]
  simp only [show ((1 : Int32) = 0) = False from by decide, if_false, show x_b1 0 = true from rfl, show x_b1 1 = true from rfl, if_true]
  rw [xI_ix (by omega), if_pos (show decide (d < 8) = true by simp; omega), if_pos (show decide (d < 8) = true by simp; omega), xI_cl (by omega), h0, h1]
  split
  · rfl
  · split
    · rfl
    · split
      · rfl
      · split <;> rfl
theorem valAt {M R : x_m} {d L c l p : Nat} {ρ : Nat → Nat} (hL : L ≤ 4) (hc : c ≤ 1000) (hr : ∀ i, i < c → ρ i < 1000 ∧ M.2.1 (15 + 13 * d) i = xI (ρ i)) (hv : ∀ l i, l < L → i < c → M.2.1 (11 + 13 * d + l) (ρ i) = R.2.1 391 (4000 * d + 4 * i + l)) (hl : l < L) (hp : p < c) : F_DM_valueAt (9 + 13 * d) (xI l) (xI p) M = some (R.2.1 391 (4000 * d + 4 * p + l), M) := by
  unfold F_DM_valueAt
  obtain ⟨r1, r2⟩ := hr p hp
  rw [xI_ix (by omega), if_pos (show decide (l < 4) = true by simp; omega), xI_ix (by omega), if_pos (show decide (p < 1000) = true by simp; omega), xI_cl (by omega), xI_cl (by omega), show 9 + 13 * d + 6 = 15 + 13 * d by omega, r2, xI_ix (by omega), if_pos (show decide (ρ p < 1000) = true by simp; omega), xI_cl (by omega), show 9 + 13 * d + 2 + l = 11 + 13 * d + l by omega, hv l p hl hp]
theorem valOf {R : x_m} {d l p : Nat} (hd : d < 8) (hl : l < 4) (hp : p < 1000) : F_MD_valueOf (xI d) (xI l) (xI p) R = some (R.2.1 391 (4000 * d + 4 * p + l), R) := by
  unfold F_MD_valueOf
  rw [show (4000 : Int32) = xI 4000 from rfl, show (4 : Int32) = xI 4 from rfl]
  simp only [xI_mul, xI_add]
  rw [xI_ix (by omega), if_pos (show decide (4000 * d + 4 * p + l < 32000) = true by simp; omega), xI_cl (by omega)]
theorem LO_value {M R : x_m} {n : Nat} (h : SR M R n) (a l p : Int32) : LO n M R (F_LW_value a l p M) (F_MD_value a l p R) := by
  have h' := h
  obtain ⟨D, Ms, q, q2, r, r2, hc, a1, a2, a3, a4, a5⟩ := h'
  have bad : LO n M R ((some ((Sum.inr true : Int32 ⊕ Bool), M)).bind fun r => x_w1 true r) (some (0, x_wS R 387 1 1)) := LO_x1 true _ rfl rfl h
  have val : ∀ v : Int32, LO n M R ((some ((Sum.inl v : Int32 ⊕ Bool), M)).bind fun r => x_w1 true r) (some (v, x_wS R 387 1 0)) := fun v => LO_v1 (n := n) true v rfl rfl h (FC_refl _) (FR_refl _)
  unfold F_LW_value F_QR_value F_MD_value B_QR_value_28 B_QR_value_29 B_MD_value_16 B_MD_value_37
  simp only [ref_1, show ((1 : Int32) ≤ 0) = False from by decide, show ((1 : Int32) = 0) = False from by decide, show ((0 : Int32) ≤ 0) = True from by decide, if_false, if_true]
  rcases hasD hc a with ⟨d, d1, d8, d2, d3, d4⟩ | ⟨_, d3, d4⟩
  · obtain ⟨L, c, ρ, ⟨b1, b2, b3, b4, b5, b6, b7⟩, v1, v2⟩ := ValD_of hc d1
    subst d2
    rw [isV d8 b2 b3 b5 b7 d4, Option.bind_some]
    rcases hasL d8 b2 b4 d3 l with ⟨l', l1, l2, l3⟩ | ⟨l1, l3⟩
    · subst l2
      rw [l3, Option.bind_some, if_neg (xI_not_neg (j := l') (by omega))]
      simp only [xI_le (a := L) (b := l') (by omega) (by omega), if_neg (show ¬ L ≤ l' by omega), show ((1 : Int32) = 0) = False from by decide, if_false]
      rcases hasM d8 b3 b6 d3 p with ⟨p', p1, p2, p3⟩ | ⟨p1, p3⟩
      · subst p2
        rw [p3, Option.bind_some, if_neg (xI_not_neg (j := p') (by omega))]
        simp only [xI_le (a := c) (b := p') (by omega) (by omega), if_neg (show ¬ c ≤ p' by omega), show ((1 : Int32) = 0) = False from by decide, if_false]
        rw [xI_ix (by omega), if_pos (show decide (d < 8) = true by simp; omega), xI_cl (by omega), valAt b2 b3 v1 v2 l1 p1, Option.bind_some, valOf d8 (by omega) (by omega), Option.bind_some]
        exact val _
      · rw [p3, Option.bind_some]
        have : (if p < 0 then (0 : Int32) else if xI c ≤ p then 0 else 1) = 0 := by
          rcases p1 with z | ⟨p', y1, y2, y3⟩
          · rw [if_pos z]
          · subst y3
            rw [if_neg (xI_not_neg y2), if_pos (by rw [xI_le (by omega) y2]; exact y1)]
        rw [this]
        simp only [if_true]
        exact bad
    · rw [l3, Option.bind_some]
      have : (if l < 0 then (0 : Int32) else if xI L ≤ l then 0 else if p < 0 then 0 else if xI c ≤ p then 0 else 1) = 0 := by
        rcases l1 with z | ⟨p', y1, y2, y3⟩
        · rw [if_pos z]
        · subst y3
          rw [if_neg (xI_not_neg y2), if_pos (by rw [xI_le (by omega) y2]; exact y1)]
      rw [this]
      simp only [if_true]
      exact bad
  · rw [hasL_no (R := R) a l d3, Option.bind_some]
    unfold F_MD_isValue B_MD_isValue_40 B_MD_isValue_41
    rw [d4, Option.bind_some]
    simp only [if_true, show x_b1 0 = true from rfl, Option.bind_some]
    exact bad
