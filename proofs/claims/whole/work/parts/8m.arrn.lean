/-! arrange -/
theorem Srt_kp {m m' : x_m} {p l l' k : Nat} {P : Int32 → Prop} (h : Srt m p l' k P) (hk : kpS m m' p l) (hl : l' ≠ l) (hl4 : l' < 4) : Srt m' p l' k P := by
  unfold Srt at *
  rw [hk.2.2.1 (p + 8 + l') (by omega) (by omega), hk.2.2.2 l' hl]
  exact h
theorem p_a12 (K2 : Int32 → x_m → Option x_m) {m0 : x_m} {p l c : Nat} (hl : l < 4) (hc : c ≤ 1000) (h1 : m0.1 p 1 = xI c) : ∀ (w i f k : Nat) (m : x_m), i + w = c → w < f → Srt m p l k (fun v => ∃ j, j < i ∧ m0.2.1 (p + 2 + l) j = v) → k ≤ i → kpS m0 m p l →
    ∃ m' k', B_DM_arrange_12 p K2 f (xI l) (xI i) m = K2 (xI (l + 1)) m' ∧ Srt m' p l k' (fun v => ∃ j, j < c ∧ m0.2.1 (p + 2 + l) j = v) ∧ kpS m0 m' p l := by
  intro w
  induction w with
  | zero =>
    intro i f k m hi hf hs hk hp
    cases f with
    | zero => omega
    | succ f =>
      have : i = c := by omega
      subst this
      rw [B_DM_arrange_12, hp.1, h1, if_pos (Int32.le_refl _), xI_add1]
      exact ⟨m, k, rfl, hs, hp⟩
  | succ w ih =>
    intro i f k m hi hf hs hk hp
    cases f with
    | zero => omega
    | succ f =>
      rw [B_DM_arrange_12, hp.1, h1, if_neg (by rw [xI_le (by omega) (by omega)]; omega), xI_ix (by omega), if_pos (show decide (l < 4) = true by simp; omega), xI_ix (by omega), if_pos (show decide (i < 1000) = true by simp; omega), xI_cl (by omega), xI_cl (by omega)]
      obtain ⟨m', k', e1, e2, e3, e4⟩ := insert_spec hs hl (by omega) (m.2.1 (p + 2 + l) i)
      rw [e1, Option.bind_some, xI_add1]
      have hv : m.2.1 (p + 2 + l) i = m0.2.1 (p + 2 + l) i := by rw [hp.2.2.1 _ (by omega) (by omega)]
      rw [hv] at e3
      refine ih (i + 1) f k' m' (by omega) (by omega) ?_ (by omega) (kpS_trans hp e4)
      obtain ⟨s1, s2, s3, s4⟩ := e3
      refine ⟨s1, s2, s3, fun v => ?_⟩
      rw [s4 v]
      refine ⟨fun z => ?_, fun z => ?_⟩
      · rcases z with ⟨j, j1, j2⟩ | z
        · exact ⟨j, by omega, j2⟩
        · exact ⟨i, by omega, z.symm⟩
      · obtain ⟨j, j1, j2⟩ := z
        by_cases e : j = i
        · right; rw [← j2, e]
        · exact Or.inl ⟨j, by omega, j2⟩
def kpL (m m' : x_m) (p : Nat) : Prop := m'.1 = m.1 ∧ m'.2.2 = m.2.2 ∧ (∀ a, ¬ (p + 8 ≤ a ∧ a ≤ p + 12) → m'.2.1 a = m.2.1 a)
theorem p_a2 {m0 : x_m} {p L c : Nat} (hL : L ≤ 4) (hc : c ≤ 1000) (h0 : m0.1 p 0 = xI L) (h1 : m0.1 p 1 = xI c) : ∀ (w l f : Nat) (m : x_m) (K : Nat → Nat), l + w = L → w < f → kpL m0 m p → (∀ l', l' < l → Srt m p l' (K l') (fun v => ∃ j, j < c ∧ m0.2.1 (p + 2 + l') j = v)) → (∀ l', l ≤ l' → l' < 4 → m.2.1 (p + 12) l' = 0) →
    ∃ (m' : x_m) (K' : Nat → Nat), B_DM_arrange_2 p f (xI l) m = B_DM_arrange_47 p x_fu 0 m' ∧ kpL m0 m' p ∧ (∀ l', l' < L → Srt m' p l' (K' l') (fun v => ∃ j, j < c ∧ m0.2.1 (p + 2 + l') j = v)) := by
  intro w
  induction w with
  | zero =>
    intro l f m K hl hf hk hs hz
    cases f with
    | zero => omega
    | succ f =>
      rw [B_DM_arrange_2, hk.1, h0, if_pos (by rw [xI_le (by omega) (by omega)]; omega)]
      exact ⟨m, K, rfl, hk, fun l' x => hs l' (by omega)⟩
  | succ w ih =>
    intro l f m K hl hf hk hs hz
    cases f with
    | zero => omega
    | succ f =>
      rw [B_DM_arrange_2, hk.1, h0, if_neg (by rw [xI_le (by omega) (by omega)]; omega)]
      have v : ∀ l', l' < 4 → m.2.1 (p + 2 + l') = m0.2.1 (p + 2 + l') := fun l' x => hk.2.2 _ (by omega)
      have s0 : Srt m p l 0 (fun v => ∃ j, j < 0 ∧ m.2.1 (p + 2 + l) j = v) := ⟨by omega, hz l (Nat.le_refl _) (by omega), fun i j x y => by omega, fun v => ⟨fun ⟨i, x, _⟩ => by omega, fun ⟨i, x, _⟩ => by omega⟩⟩
      obtain ⟨m', k', e1, e2, e3⟩ := p_a12 (B_DM_arrange_2 p f) (m0 := m) (p := p) (l := l) (c := c) (by omega) hc (by rw [hk.1]; exact h1) c 0 x_fu 0 m (by omega) (by unfold x_fu; omega) s0 (by omega) (kpS_refl _ _ _)
      rw [show xI 0 = 0 from rfl] at e1
      rw [e1]
      rw [v l (by omega)] at e2
      refine ih (l + 1) f m' (fun x => if x = l then k' else K x) (by omega) (by omega) ⟨e3.1.trans hk.1, e3.2.1.trans hk.2.1, fun a x => (e3.2.2.1 a (by omega) (by omega)).trans (hk.2.2 a x)⟩ (fun l' x => ?_) (fun l' x y => ?_)
      · by_cases e : l' = l
        · subst e
          simp only [if_true]
          exact e2
        · simp only [if_neg e]
          exact Srt_kp (hs l' (by omega)) e3 e (by omega)
      · rw [e3.2.2.2 l' (by omega)]; exact hz l' (by omega) y
theorem p_a47 {m0 : x_m} {p c K0 : Nat} (hc : c ≤ 1000) (h1 : m0.1 p 1 = xI c) (hs : Srt m0 p 0 K0 (fun v => ∃ j, j < c ∧ m0.2.1 (p + 2) j = v)) (hd : ∀ i j, i < c → j < c → i ≠ j → m0.2.1 (p + 2) i ≠ m0.2.1 (p + 2) j) : ∀ (w i f : Nat) (m : x_m), i + w = c → w < f → m.1 = m0.1 → m.2.2 = m0.2.2 → (∀ a, a ≠ p + 6 → m.2.1 a = m0.2.1 a) → (∀ j, j < i → ∃ t, t < K0 ∧ m0.2.1 (p + 8) t = m0.2.1 (p + 2) j ∧ m.2.1 (p + 6) t = xI j) →
    ∃ m', B_DM_arrange_47 p f (xI i) m = some (x_wS m' p 2 0) ∧ m'.1 = m0.1 ∧ m'.2.2 = m0.2.2 ∧ (∀ a, a ≠ p + 6 → m'.2.1 a = m0.2.1 a) ∧ (∀ j, j < c → ∃ t, t < K0 ∧ m0.2.1 (p + 8) t = m0.2.1 (p + 2) j ∧ m'.2.1 (p + 6) t = xI j) := by
  intro w
  induction w with
  | zero =>
    intro i f m hi hf e1 e2 e3 e4
    cases f with
    | zero => omega
    | succ f =>
      rw [B_DM_arrange_47, e1, h1, if_pos (by rw [xI_le (by omega) (by omega)]; omega)]
      exact ⟨m, rfl, e1, e2, e3, fun j x => e4 j (by omega)⟩
  | succ w ih =>
    intro i f m hi hf e1 e2 e3 e4
    cases f with
    | zero => omega
    | succ f =>
      rw [B_DM_arrange_47, e1, h1, if_neg (by rw [xI_le (by omega) (by omega)]; omega), if_pos (by decide), xI_ix (by omega), if_pos (show decide (i < 1000) = true by simp; omega), xI_cl (by omega), show p + 2 + (0 : Int32).toNatClampNeg = p + 2 from rfl]
      have hs' : Srt m p 0 K0 (fun v => ∃ j, j < c ∧ m0.2.1 (p + 2) j = v) := by
        unfold Srt at *
        rw [e3 _ (by omega), e3 _ (by omega)]; exact hs
      obtain ⟨t, t1, t2, t3, t4⟩ := low_spec hs' (by omega) (m.2.1 (p + 2) i)
      have hin : ∃ j, j < c ∧ m0.2.1 (p + 2) j = m.2.1 (p + 2) i := ⟨i, by omega, by rw [e3 _ (by omega)]⟩
      obtain ⟨u1, u2⟩ := low_in hs' hin t3 t4
      have k1 := hs.1
      rw [show (0 : Int32) = xI 0 from rfl, t2, Option.bind_some]
      simp only []
      rw [xI_ix (by omega), if_pos (show decide (t < 1000) = true by simp; omega), xI_cl (by omega), xI_add1]
      have u2' : m0.2.1 (p + 8) t = m0.2.1 (p + 2) i := by
        rw [← e3 (p + 8) (by omega), ← e3 (p + 2) (by omega)]; exact u2
      have r2 : ∀ a x, (x_wA m (p + 6) t (xI i)).2.1 a x = if a = p + 6 ∧ x = t then xI i else m.2.1 a x := fun _ _ => rfl
      refine ih (i + 1) f (x_wA m (p + 6) t (xI i)) (by omega) (by omega) e1 e2 (fun a x => ?_) (fun j x => ?_)
      · funext y
        rw [r2, if_neg (fun z => x z.1), e3 a x]
      · by_cases ej : j = i
        · subst ej
          exact ⟨t, u1, u2', by rw [r2, if_pos ⟨rfl, rfl⟩]⟩
        · obtain ⟨t', x1, x2, x3⟩ := e4 j (by omega)
          refine ⟨t', x1, x2, ?_⟩
          rw [r2, if_neg (fun z => ?_)]
          · exact x3
          · rw [z.2, u2'] at x2
            exact hd i j (by omega) (by omega) (fun w => ej w.symm) x2
theorem F_DM_arrange_eq {m : x_m} {p L c : Nat} (hL1 : 1 ≤ L) (hL : L ≤ 4) (hc : c ≤ 1000) (h0 : m.1 p 0 = xI L) (h1 : m.1 p 1 = xI c) (hz : ∀ l, l < 4 → m.2.1 (p + 12) l = 0) (hd : ∀ i j, i < c → j < c → i ≠ j → m.2.1 (p + 2) i ≠ m.2.1 (p + 2) j) :
    ∃ (m' : x_m) (K : Nat → Nat), F_DM_arrange p m = some m' ∧ (∀ l, l < L → Srt m' p l (K l) (fun v => ∃ j, j < c ∧ m.2.1 (p + 2 + l) j = v)) ∧ (∀ j, j < c → ∃ t, t < K 0 ∧ m'.2.1 (p + 8) t = m.2.1 (p + 2) j ∧ m'.2.1 (p + 6) t = xI j) ∧ m'.1 p 2 = 0 ∧ (∀ a b, ¬ (a = p ∧ b = 2) → m'.1 a b = m.1 a b) ∧ m'.2.2 = m.2.2 ∧ (∀ a, ¬ qA p a → m'.2.1 a = m.2.1 a) := by
  unfold F_DM_arrange
  obtain ⟨m1, K, e1, e2, e3⟩ := p_a2 hL hc h0 h1 L 0 x_fu m (fun _ => 0) (by omega) (by unfold x_fu; omega) ⟨rfl, rfl, fun _ _ => rfl⟩ (fun l' x => by omega) (fun l' _ y => hz l' y)
  rw [show xI 0 = 0 from rfl] at e1
  rw [e1]
  have v0 : m1.2.1 (p + 2) = m.2.1 (p + 2) := e2.2.2 _ (by omega)
  have s0 : Srt m1 p 0 (K 0) (fun v => ∃ j, j < c ∧ m1.2.1 (p + 2) j = v) := by
    rw [v0]; exact e3 0 (by omega)
  obtain ⟨m2, g1, g2, g3, g4, g5⟩ := p_a47 (m0 := m1) (p := p) (c := c) (K0 := K 0) hc (by rw [e2.1]; exact h1) s0 (by rw [v0]; exact hd) c 0 x_fu m1 (by omega) (by unfold x_fu; omega) rfl rfl (fun _ _ => rfl) (fun j x => by omega)
  rw [show xI 0 = 0 from rfl] at g1
  refine ⟨x_wS m2 p 2 0, K, g1, fun l hl => ?_, fun j hj => ?_, wS_same _ _ _ _, fun a b x => ?_, g3.trans e2.2.1, fun a x => ?_⟩
  · have := e3 l hl
    unfold Srt at *
    show K l ≤ 1000 ∧ m2.2.1 (p + 12) l = xI (K l) ∧ (∀ i j, i < j → j < K l → m2.2.1 (p + 8 + l) i < m2.2.1 (p + 8 + l) j) ∧ (∀ v, (∃ i, i < K l ∧ m2.2.1 (p + 8 + l) i = v) ↔ _)
    rw [g4 _ (by omega), g4 _ (by omega)]; exact this
  · obtain ⟨t, t1, t2, t3⟩ := g5 j hj
    refine ⟨t, t1, ?_, t3⟩
    show m2.2.1 (p + 8) t = _
    rw [g4 _ (by omega), t2, v0]
  · show (if a = p ∧ b = 2 then _ else _) = _
    rw [if_neg x, g2, e2.1]
  · unfold qA at x
    show m2.2.1 a = _
    rw [g4 _ (by omega), e2.2.2 _ (by omega)]
/-- two rising rows of the same numbers are one -/
theorem rise_eq {f g : Nat → Int32} {k c : Nat} (hf : ∀ i j, i < j → j < k → f i < f j) (hg : ∀ i j, i < j → j < c → g i < g j) (h : ∀ v, (∃ i, i < k ∧ f i = v) ↔ ∃ i, i < c ∧ g i = v) : ∀ i, (i < k → i < c ∧ f i = g i) ∧ (i < c → i < k ∧ f i = g i) := by
  intro i
  induction i using Nat.strongRecOn with
  | _ i ih =>
    have A : i < k → i < c ∧ g i ≤ f i := by
      intro hi
      obtain ⟨j, j1, j2⟩ := (h (f i)).mp ⟨i, hi, rfl⟩
      rcases Nat.lt_or_ge j i with z | z
      · have := ((ih j z).2 j1).2
        have lt := hf j i z hi
        rw [this, j2] at lt
        exact absurd lt (Int32.lt_irrefl)
      · refine ⟨by omega, ?_⟩
        by_cases e : i = j
        · rw [e, j2, ← e]; exact Int32.le_refl _
        · have := hg i j (by omega) j1
          rw [j2] at this
          exact Int32.le_of_lt this
    have B : i < c → i < k ∧ f i ≤ g i := by
      intro hi
      obtain ⟨j, j1, j2⟩ := (h (g i)).mpr ⟨i, hi, rfl⟩
      rcases Nat.lt_or_ge j i with z | z
      · have := ((ih j z).1 j1).2
        have lt := hg j i z hi
        rw [← this, j2] at lt
        exact absurd lt (Int32.lt_irrefl)
      · refine ⟨by omega, ?_⟩
        by_cases e : i = j
        · rw [e, j2, ← e]; exact Int32.le_refl _
        · have := hf i j (by omega) j1
          rw [j2] at this
          exact Int32.le_of_lt this
    exact ⟨fun hi => ⟨(A hi).1, Int32.le_antisymm (B (A hi).1).2 (A hi).2⟩, fun hi => ⟨(B hi).1, Int32.le_antisymm (B hi).2 (A (B hi).1).2⟩⟩
