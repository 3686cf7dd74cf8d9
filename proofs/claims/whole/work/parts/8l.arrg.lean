/-! the class's order -/
theorem half_tab : ∀ s, s < 2001 → (((xI s).toUInt32 >>> ((1 : Int32).toUInt32 &&& Int32.toUInt32 31)).toInt32) = xI (s / 2) := by decide +kernel
theorem p_low {m : x_m} {p l k : Nat} (v : Int32) (hl : l < 4) (hk : k ≤ 1000) (hs : ∀ i j, i < j → j < k → m.2.1 (p + 8 + l) i < m.2.1 (p + 8 + l) j) : ∀ (r lo hi h f : Nat), lo ≤ hi → hi ≤ k → hi - lo < 2 ^ r → h + r ≤ 31 → r < f → (∀ i, i < lo → m.2.1 (p + 8 + l) i < v) → (∀ i, hi ≤ i → i < k → v ≤ m.2.1 (p + 8 + l) i) →
    ∃ t, t ≤ k ∧ B_DM_lowerThan_13 p f (xI l) v (xI lo) (xI hi) (xI h) m = some (xI t, m) ∧ (∀ i, i < t → m.2.1 (p + 8 + l) i < v) ∧ (∀ i, t ≤ i → i < k → v ≤ m.2.1 (p + 8 + l) i) := by
  intro r
  induction r with
  | zero =>
    intro lo hi h f h1 h2 h3 h4 h5 h6 h7
    have : lo = hi := by simp at h3; omega
    subst this
    cases f with
    | zero => omega
    | succ f =>
      rw [B_DM_lowerThan_13, if_neg (by show ¬ (xI 32 ≤ _); rw [xI_le (by omega) (by omega)]; omega), if_pos (Int32.le_refl _)]
      exact ⟨lo, h2, rfl, h6, h7⟩
  | succ r ih =>
    intro lo hi h f h1 h2 h3 h4 h5 h6 h7
    cases f with
    | zero => omega
    | succ f =>
      rw [B_DM_lowerThan_13, if_neg (by show ¬ (xI 32 ≤ _); rw [xI_le (by omega) (by omega)]; omega)]
      by_cases e : hi ≤ lo
      · rw [if_pos (by rw [xI_le (by omega) (by omega)]; omega)]
        have : lo = hi := by omega
        subst this
        exact ⟨lo, h2, rfl, h6, h7⟩
      · rw [if_neg (by rw [xI_le (by omega) (by omega)]; omega), xI_add, half_tab _ (by omega), xI_ix (by omega), if_pos (show decide (l < 4) = true by simp; omega), xI_ix (by omega), if_pos (show decide ((lo + hi) / 2 < 1000) = true by simp; omega), xI_cl (by omega), xI_cl (by omega)]
        unfold B_DM_lowerThan_59
        rw [xI_add1, xI_add1]
        rw [Nat.pow_succ] at h3
        by_cases c : v ≤ m.2.1 (p + 8 + l) ((lo + hi) / 2)
        · rw [if_pos c]
          refine ih lo ((lo + hi) / 2) (h + 1) f (by omega) (by omega) (by omega) (by omega) (by omega) h6 (fun i x y => ?_)
          by_cases ei : i = (lo + hi) / 2
          · rw [ei]; exact c
          · exact Int32.le_trans c (Int32.le_of_lt (hs _ _ (by omega) y))
        · rw [if_neg c]
          have c' := Int32.not_le.mp c
          refine ih ((lo + hi) / 2 + 1) hi (h + 1) f (by omega) h2 (by omega) (by omega) (by omega) (fun i x => ?_) h7
          by_cases ei : i = (lo + hi) / 2
          · rw [ei]; exact c'
          · exact Int32.lt_trans (hs i _ (by omega) (by omega)) c'
def Srt (m : x_m) (p l k : Nat) (P : Int32 → Prop) : Prop := k ≤ 1000 ∧ m.2.1 (p + 12) l = xI k ∧ (∀ i j, i < j → j < k → m.2.1 (p + 8 + l) i < m.2.1 (p + 8 + l) j) ∧ (∀ v, (∃ i, i < k ∧ m.2.1 (p + 8 + l) i = v) ↔ P v)
theorem low_spec {m : x_m} {p l k : Nat} {P : Int32 → Prop} (h : Srt m p l k P) (hl : l < 4) (v : Int32) : ∃ t, t ≤ k ∧ F_DM_lowerThan p (xI l) v m = some (xI t, m) ∧ (∀ i, i < t → m.2.1 (p + 8 + l) i < v) ∧ (∀ i, t ≤ i → i < k → v ≤ m.2.1 (p + 8 + l) i) := by
  obtain ⟨h1, h2, h3, h4⟩ := h
  unfold F_DM_lowerThan
  rw [xI_ix (by omega), if_pos (show decide (l < 4) = true by simp; omega), xI_cl (by omega), h2]
  exact p_low v hl h1 h3 10 0 k 0 x_fu (by omega) (by omega) (by omega) (by omega) (by unfold x_fu; omega) (fun i x => by omega) (fun i x y => by omega)
theorem low_in {m : x_m} {p l k t : Nat} {P : Int32 → Prop} {v : Int32} (h : Srt m p l k P) (hv : P v) (h1 : ∀ i, i < t → m.2.1 (p + 8 + l) i < v) (h2 : ∀ i, t ≤ i → i < k → v ≤ m.2.1 (p + 8 + l) i) : t < k ∧ m.2.1 (p + 8 + l) t = v := by
  obtain ⟨i, i1, i2⟩ := (h.2.2.2 v).mpr hv
  have hti : t ≤ i := by
    rcases Nat.lt_or_ge i t with z | z
    · have := h1 i z
      rw [i2] at this
      exact absurd this (Int32.lt_irrefl)
    · exact z
  have tk : t < k := by omega
  refine ⟨tk, ?_⟩
  by_cases e : t = i
  · rw [e]; exact i2
  · have a := h2 t (Nat.le_refl _) tk
    have b := h.2.2.1 t i (by omega) i1
    rw [i2] at b
    exact absurd (Int32.lt_of_lt_of_le b a) (Int32.lt_irrefl)
def qA (p a : Nat) : Prop := p + 6 ≤ a ∧ a ≤ p + 12
/-- levels other than l, and what is not of the order, stay -/
def kpS (m m' : x_m) (p l : Nat) : Prop := m'.1 = m.1 ∧ m'.2.2 = m.2.2 ∧ (∀ a, a ≠ p + 8 + l → a ≠ p + 12 → m'.2.1 a = m.2.1 a) ∧ (∀ j, j ≠ l → m'.2.1 (p + 12) j = m.2.1 (p + 12) j)
theorem kpS_refl (m : x_m) (p l : Nat) : kpS m m p l := ⟨rfl, rfl, fun _ _ _ => rfl, fun _ _ => rfl⟩
theorem kpS_trans {m m' m'' : x_m} {p l : Nat} (h : kpS m m' p l) (h' : kpS m' m'' p l) : kpS m m'' p l := ⟨h'.1.trans h.1, h'.2.1.trans h.2.1, fun a x y => (h'.2.2.1 a x y).trans (h.2.2.1 a x y), fun j x => (h'.2.2.2 j x).trans (h.2.2.2 j x)⟩
theorem insert_spec {m : x_m} {p l k : Nat} {P : Int32 → Prop} (h : Srt m p l k P) (hl : l < 4) (hk : k < 1000) (v : Int32) : ∃ m' k', F_DM_insert p (xI l) v m = some m' ∧ k' ≤ k + 1 ∧ Srt m' p l k' (fun w => P w ∨ w = v) ∧ kpS m m' p l := by
  obtain ⟨t, t1, t2, t3, t4⟩ := low_spec h hl v
  have h' := h
  obtain ⟨h1, h2, h3, h4⟩ := h
  unfold F_DM_insert
  rw [xI_ix (by omega), if_pos (show decide (l < 4) = true by simp; omega), if_pos (show decide (l < 4) = true by simp; omega), t2, Option.bind_some, xI_cl (by omega), h2]
  simp only []
  unfold B_DM_insert_42
  by_cases isin : t < k ∧ m.2.1 (p + 8 + l) t = v
  · rw [if_neg (by rw [xI_le (by omega) (by omega)]; omega), xI_ix (by omega), if_pos (show decide (t < 1000) = true by simp; omega), xI_cl (by omega), if_pos isin.2]
    unfold B_DM_insert_43 B_DM_insert_89
    rw [if_neg (by decide)]
    refine ⟨m, k, rfl, by omega, ⟨h1, h2, h3, fun w => ?_⟩, kpS_refl _ _ _⟩
    rw [h4 w]
    refine ⟨Or.inl, fun z => ?_⟩
    rcases z with z | z
    · exact z
    · rw [z]; exact (h4 v).mp ⟨t, isin.1, isin.2⟩
  · have hv : ¬ P v := fun z => isin (low_in h' z t3 t4)
    have e : (if xI k ≤ xI t then B_DM_insert_43 p (xI l) v (p + 8 + l) (xI k) (xI t) 0 m else if x_ix (xI t) 1000 = true then if m.2.1 (p + 8 + l) (xI t).toNatClampNeg = v then B_DM_insert_43 p (xI l) v (p + 8 + l) (xI k) (xI t) 1 m else B_DM_insert_43 p (xI l) v (p + 8 + l) (xI k) (xI t) 0 m else none) = B_DM_insert_43 p (xI l) v (p + 8 + l) (xI k) (xI t) 0 m := by
      by_cases z : k ≤ t
      · rw [if_pos (by rw [xI_le (by omega) (by omega)]; omega)]
      · rw [if_neg (by rw [xI_le (by omega) (by omega)]; omega), xI_ix (by omega), if_pos (show decide (t < 1000) = true by simp; omega), xI_cl (by omega), if_neg (fun y => isin ⟨by omega, y⟩)]
    rw [e]
    unfold B_DM_insert_43 B_DM_insert_89
    rw [if_pos rfl, if_neg (by show ¬ (xI 1000 ≤ _); rw [xI_le (by omega) (by omega)]; omega), xI_add1, xI_sub t1]
    have cg : x_cg (xI t) (xI (t + 1)) (xI (k - t)) 1000 1000 = true := by
      unfold x_cg
      rw [xI_cl (by omega), xI_cl (by omega), xI_cl (by omega)]
      simp only [decide_eq_true (xI_not_neg (j := t) (by omega)), decide_eq_true (xI_not_neg (j := t + 1) (by omega)), decide_eq_true (xI_not_neg (j := k - t) (by omega)), Bool.true_and]
      rw [decide_eq_true (by omega), decide_eq_true (by omega)]; rfl
    rw [if_pos cg, xI_ix (by omega), if_pos (show decide (t < 1000) = true by simp; omega), xI_ix (by omega), if_pos (show decide (l < 4) = true by simp; omega), xI_cl (by omega), xI_cl (by omega), xI_cl (by omega), xI_cl (by omega), xI_add1]
    have r2 : ∀ a i, (x_wA (x_wA (x_wC m (p + 8 + l) (p + 8 + l) t (t + 1) (k - t)) (p + 8 + l) t v) (p + 12) l (xI (k + 1))).2.1 a i = if a = p + 12 ∧ i = l then xI (k + 1) else if a = p + 8 + l ∧ i = t then v else (if a = p + 8 + l then va_cpy (m.2.1 (p + 8 + l)) (m.2.1 (p + 8 + l)) t (t + 1) (k - t) else m.2.1 a) i := fun _ _ => rfl
    have r1 : (x_wA (x_wA (x_wC m (p + 8 + l) (p + 8 + l) t (t + 1) (k - t)) (p + 8 + l) t v) (p + 12) l (xI (k + 1))).1 = m.1 := rfl
    have r3 : (x_wA (x_wA (x_wC m (p + 8 + l) (p + 8 + l) t (t + 1) (k - t)) (p + 8 + l) t v) (p + 12) l (xI (k + 1))).2.2 = m.2.2 := rfl
    generalize x_wA (x_wA (x_wC m (p + 8 + l) (p + 8 + l) t (t + 1) (k - t)) (p + 8 + l) t v) (p + 12) l (xI (k + 1)) = m' at *
    have S : ∀ i, m'.2.1 (p + 8 + l) i = if i = t then v else if t + 1 ≤ i ∧ i < t + 1 + (k - t) then m.2.1 (p + 8 + l) (t + (i - (t + 1))) else m.2.1 (p + 8 + l) i := by
      intro i
      rw [r2, if_neg (by omega)]
      by_cases ei : i = t
      · rw [if_pos ⟨rfl, ei⟩, if_pos ei]
      · rw [if_neg (fun z => ei z.2), if_neg ei, if_pos rfl]; rfl
    refine ⟨m', k + 1, rfl, Nat.le_refl _, ⟨by omega, by rw [r2, if_pos ⟨rfl, rfl⟩], fun i j x y => ?_, fun w => ⟨fun hx => ?_, fun hx => ?_⟩⟩, ⟨r1, r3, fun a x y => ?_, fun j x => ?_⟩⟩
    · rw [S, S]
      by_cases a1 : i = t
      · rw [if_pos a1, if_neg (show ¬ j = t by omega), if_pos (show t + 1 ≤ j ∧ j < t + 1 + (k - t) by omega)]
        have a := t4 (t + (j - (t + 1))) (by omega) (by omega)
        rcases Int32.lt_or_eq_of_le a with z | z
        · exact z
        · exact absurd ((h4 v).mp ⟨_, (show t + (j - (t + 1)) < k by omega), z.symm⟩) hv
      · rw [if_neg a1]
        by_cases a2 : i < t
        · rw [if_neg (show ¬ (t + 1 ≤ i ∧ i < t + 1 + (k - t)) by omega)]
          by_cases a3 : j = t
          · rw [if_pos a3]; exact t3 i a2
          · rw [if_neg a3]
            by_cases a4 : j < t
            · rw [if_neg (show ¬ (t + 1 ≤ j ∧ j < t + 1 + (k - t)) by omega)]; exact h3 i j x (by omega)
            · rw [if_pos (show t + 1 ≤ j ∧ j < t + 1 + (k - t) by omega)]; exact h3 i _ (by omega) (by omega)
        · rw [if_pos (show t + 1 ≤ i ∧ i < t + 1 + (k - t) by omega), if_neg (show ¬ j = t by omega), if_pos (show t + 1 ≤ j ∧ j < t + 1 + (k - t) by omega)]
          exact h3 _ _ (by omega) (by omega)
    · obtain ⟨i, i1, i2⟩ := hx
      rw [S] at i2
      by_cases a1 : i = t
      · rw [if_pos a1] at i2; exact Or.inr i2.symm
      · rw [if_neg a1] at i2
        left
        by_cases a2 : i < t
        · rw [if_neg (show ¬ (t + 1 ≤ i ∧ i < t + 1 + (k - t)) by omega)] at i2
          exact (h4 w).mp ⟨i, by omega, i2⟩
        · rw [if_pos (show t + 1 ≤ i ∧ i < t + 1 + (k - t) by omega)] at i2
          exact (h4 w).mp ⟨_, by omega, i2⟩
    · rcases hx with hx | hx
      · obtain ⟨i, i1, i2⟩ := (h4 w).mpr hx
        by_cases a2 : i < t
        · refine ⟨i, by omega, ?_⟩
          rw [S, if_neg (by omega), if_neg (show ¬ (t + 1 ≤ i ∧ i < t + 1 + (k - t)) by omega)]; exact i2
        · refine ⟨i + 1, by omega, ?_⟩
          rw [S, if_neg (by omega), if_pos (show t + 1 ≤ i + 1 ∧ i + 1 < t + 1 + (k - t) by omega), show t + (i + 1 - (t + 1)) = i by omega]; exact i2
      · refine ⟨t, by omega, ?_⟩
        rw [S, if_pos rfl]; exact hx.symm
    · funext i
      rw [r2, if_neg (fun z => y z.1), if_neg (fun z => x z.1), if_neg x]
    · rw [r2, if_neg (fun z => x z.2), if_neg (by omega), if_neg (by omega)]
