/-! the reference's order -/
def w391 (m : x_m) (A : Nat → Int32) : x_m := (m.1, fun a => if a = 391 then A else m.2.1 a, m.2.2)
theorem w391_self (m : x_m) : w391 m (m.2.1 391) = m := by
  refine Prod.ext rfl (Prod.ext ?_ rfl)
  funext a
  show (if a = 391 then _ else _) = _
  by_cases h : a = 391
  · rw [if_pos h, h]
  · rw [if_neg h]
theorem w391_a (m : x_m) (A : Nat → Int32) : (w391 m A).2.1 391 = A := rfl
theorem w391_o (m : x_m) (A : Nat → Int32) {a : Nat} (h : a ≠ 391) : (w391 m A).2.1 a = m.2.1 a := by
  show (if a = 391 then _ else _) = _
  rw [if_neg h]
theorem w391_w (m : x_m) (A : Nat → Int32) (i : Nat) (v : Int32) : x_wA (w391 m A) 391 i v = w391 m (fun j => if j = i then v else A j) := by
  refine Prod.ext rfl (Prod.ext ?_ rfl)
  funext a j
  show (if a = 391 ∧ j = i then v else (if a = 391 then A else m.2.1 a) j) = (if a = 391 then (fun j => if j = i then v else A j) else m.2.1 a) j
  by_cases h : a = 391
  · rw [if_pos h, if_pos h]
    by_cases hj : j = i
    · rw [if_pos ⟨h, hj⟩, if_pos hj]
    · rw [if_neg (fun z => hj z.2), if_neg hj]
  · rw [if_neg h, if_neg (fun z => h z.1), if_neg h]
def swL (A : Nat → Int32) (bk bb l j : Nat) : Int32 := if bk ≤ j ∧ j < bk + l then A (j - bk + bb) else if bb ≤ j ∧ j < bb + l then A (j - bb + bk) else A j
theorem swL_0 (A : Nat → Int32) (bk bb : Nat) : swL A bk bb 0 = A := by
  funext j
  unfold swL
  rw [if_neg (by omega), if_neg (by omega)]
theorem swL_s (A : Nat → Int32) {bk bb l : Nat} (hb : bk = bb ∨ bk + 4 ≤ bb ∨ bb + 4 ≤ bk) (hl : l < 4) : (fun j => if j = bb + l then swL A bk bb l (bk + l) else (fun j => if j = bk + l then swL A bk bb l (bb + l) else swL A bk bb l j) j) = swL A bk bb (l + 1) := by
  funext j
  have e1 : swL A bk bb l (bk + l) = A (bk + l) := by
    unfold swL
    rw [if_neg (by omega), if_neg (by omega)]
  have e2 : swL A bk bb l (bb + l) = A (bb + l) := by
    unfold swL
    rw [if_neg (by omega), if_neg (by omega)]
  show (if j = bb + l then swL A bk bb l (bk + l) else (if j = bk + l then swL A bk bb l (bb + l) else swL A bk bb l j)) = _
  rw [e1, e2]
  unfold swL
  by_cases c1 : j = bb + l
  · subst c1
    rw [if_pos rfl]
    by_cases c2 : bk = bb
    · subst c2
      rw [if_pos (by omega)]
      congr 1; omega
    · rw [if_neg (by omega), if_pos (by omega)]
      congr 1; omega
  · rw [if_neg c1]
    by_cases c2 : j = bk + l
    · subst c2
      rw [if_pos rfl, if_pos (by omega)]
      congr 1; omega
    · rw [if_neg c2]
      by_cases c3 : bk ≤ j ∧ j < bk + l
      · rw [if_pos c3, if_pos (show bk ≤ j ∧ j < bk + (l + 1) by omega)]
      · rw [if_neg c3, if_neg (show ¬ (bk ≤ j ∧ j < bk + (l + 1)) by omega)]
        by_cases c4 : bb ≤ j ∧ j < bb + l
        · rw [if_pos c4, if_pos (show bb ≤ j ∧ j < bb + (l + 1) by omega)]
        · rw [if_neg c4, if_neg (show ¬ (bb ≤ j ∧ j < bb + (l + 1)) by omega)]
theorem p_o78 (K : Int32 → Int32 → x_m → Option x_m) (m : x_m) (A : Nat → Int32) {d k b : Nat} (hd : d < 8) (hk : k < 1000) (hb : b < 1000) : ∀ (w l f : Nat), l + w = 4 → w < f → B_MD_order_78 K f (xI d) (xI k) (xI b) (xI l) (w391 m (swL A (4000 * d + 4 * k) (4000 * d + 4 * b) l)) = K (xI d) (xI (k + 1)) (w391 m (swL A (4000 * d + 4 * k) (4000 * d + 4 * b) 4)) := by
  intro w
  induction w with
  | zero =>
    intro l f hl hf
    cases f with
    | zero => omega
    | succ f =>
      have : l = 4 := by omega
      subst this
      rw [B_MD_order_78, if_pos (by decide), xI_add1]
  | succ w ih =>
    intro l f hl hf
    cases f with
    | zero => omega
    | succ f =>
      rw [B_MD_order_78, if_neg (by show ¬ (xI 4 ≤ _); rw [xI_le (by omega) (by omega)]; omega)]
      rw [show (4000 : Int32) = xI 4000 from rfl, show (4 : Int32) = xI 4 from rfl]
      simp only [xI_mul, xI_add]
      rw [xI_ix (by omega), xI_ix (by omega), xI_cl (by omega), xI_cl (by omega)]
      simp only [show (decide (4000 * d + 4 * k + l < 32000) = true) = True from by simp; omega, show (decide (4000 * d + 4 * b + l < 32000) = true) = True from by simp; omega, if_true]
      rw [w391_a, w391_w, w391_w, swL_s A (by omega) (by omega), xI_add1]
      exact ih (l + 1) f (by omega) (by omega)
theorem p_o19 (K : Int32 → Int32 → x_m → Option x_m) (m : x_m) (A : Nat → Int32) {d k c : Nat} (hd : d < 8) (hc : c ≤ 1000) (h390 : m.2.1 390 d = xI c) : ∀ (w j b f : Nat), j + w = c → w < f → k ≤ b → b < j → (∀ i, k ≤ i → i < j → A (4000 * d + 4 * b) ≤ A (4000 * d + 4 * i)) →
    ∃ b', B_MD_order_19 K f (xI d) (xI k) (xI b) (xI j) (w391 m A) = B_MD_order_78 K x_fu (xI d) (xI k) (xI b') (xI 0) (w391 m A) ∧ k ≤ b' ∧ b' < c ∧ ∀ i, k ≤ i → i < c → A (4000 * d + 4 * b') ≤ A (4000 * d + 4 * i) := by
  intro w
  induction w with
  | zero =>
    intro j b f hj hf h1 h2 h3
    cases f with
    | zero => omega
    | succ f =>
      rw [B_MD_order_19, xI_ix (by omega), if_pos (show decide (d < 8) = true by simp; omega), xI_cl (by omega), w391_o _ _ (by omega), h390, if_pos (by rw [xI_le (by omega) (by omega)]; omega)]
      exact ⟨b, rfl, h1, by omega, fun i x y => h3 i x (by omega)⟩
  | succ w ih =>
    intro j b f hj hf h1 h2 h3
    cases f with
    | zero => omega
    | succ f =>
      rw [B_MD_order_19, xI_ix (by omega), if_pos (show decide (d < 8) = true by simp; omega), xI_cl (by omega), w391_o _ _ (by omega), h390, if_neg (by rw [xI_le (by omega) (by omega)]; omega)]
      rw [show (4000 : Int32) = xI 4000 from rfl, show (4 : Int32) = xI 4 from rfl]
      simp only [xI_mul, xI_add]
      rw [xI_ix (by omega), xI_ix (by omega), xI_cl (by omega), xI_cl (by omega)]
      simp only [show (decide (4000 * d + 4 * j < 32000) = true) = True from by simp; omega, show (decide (4000 * d + 4 * b < 32000) = true) = True from by simp; omega, if_true]
      unfold B_MD_order_68
      rw [w391_a, xI_add1]
      by_cases le : A (4000 * d + 4 * b) ≤ A (4000 * d + 4 * j)
      · rw [if_pos le]
        refine ih (j + 1) b f (by omega) (by omega) h1 (by omega) (fun i x y => ?_)
        by_cases e : i = j
        · rw [e]; exact le
        · exact h3 i x (by omega)
      · rw [if_neg le]
        refine ih (j + 1) j f (by omega) (by omega) (by omega) (by omega) (fun i x y => ?_)
        by_cases e : i = j
        · rw [e]; exact Int32.le_refl _
        · have := h3 i x (by omega)
          have lt := Int32.not_le.mp le
          exact Int32.le_trans (Int32.le_of_lt lt) this
/-- rows put in another order -/
def PmS (A0 A : Nat → Int32) (d c : Nat) (σ : Nat → Nat) : Prop := (∀ i, i < c → σ i < c) ∧ (∀ i j, i < c → j < c → σ i = σ j → i = j) ∧ (∀ j, j < c → ∃ i, i < c ∧ σ i = j) ∧ (∀ i l, i < c → l < 4 → A (4000 * d + 4 * i + l) = A0 (4000 * d + 4 * σ i + l)) ∧ (∀ j, j < 4000 * d ∨ 4000 * d + 4000 ≤ j → A j = A0 j)
theorem PmS_sw {A0 A : Nat → Int32} {d c k b : Nat} {σ : Nat → Nat} (h : PmS A0 A d c σ) (hc : c ≤ 1000) (hk : k < c) (hb : b < c) : PmS A0 (swL A (4000 * d + 4 * k) (4000 * d + 4 * b) 4) d c (fun i => if i = k then σ b else if i = b then σ k else σ i) := by
  obtain ⟨h1, h2, h3, h4, h5⟩ := h
  refine ⟨fun i hi => ?_, fun i j hi hj e => ?_, fun j hj => ?_, fun i l hi hl => ?_, fun j hj => ?_⟩
  · show (if i = k then σ b else if i = b then σ k else σ i) < c
    split
    · exact h1 b hb
    · split
      · exact h1 k hk
      · exact h1 i hi
  · have e' : (if i = k then σ b else if i = b then σ k else σ i) = (if j = k then σ b else if j = b then σ k else σ j) := e
    by_cases a1 : i = k
    · rw [if_pos a1] at e'
      by_cases a2 : j = k
      · omega
      · rw [if_neg a2] at e'
        by_cases a3 : j = b
        · rw [if_pos a3] at e'
          have := h2 b k hb hk e'
          omega
        · rw [if_neg a3] at e'
          have := h2 b j hb hj e'
          omega
    · rw [if_neg a1] at e'
      by_cases a4 : i = b
      · rw [if_pos a4] at e'
        by_cases a2 : j = k
        · rw [if_pos a2] at e'
          have := h2 k b hk hb e'
          omega
        · rw [if_neg a2] at e'
          by_cases a3 : j = b
          · omega
          · rw [if_neg a3] at e'
            have := h2 k j hk hj e'
            omega
      · rw [if_neg a4] at e'
        by_cases a2 : j = k
        · rw [if_pos a2] at e'
          have := h2 i b hi hb e'
          omega
        · rw [if_neg a2] at e'
          by_cases a3 : j = b
          · rw [if_pos a3] at e'
            have := h2 i k hi hk e'
            omega
          · rw [if_neg a3] at e'
            exact h2 i j hi hj e'
  · obtain ⟨i, hi, e⟩ := h3 j hj
    by_cases a1 : i = k
    · subst a1
      refine ⟨b, hb, ?_⟩
      show (if b = i then σ b else if b = b then σ i else σ b) = j
      by_cases a2 : b = i
      · rw [if_pos a2, a2]; exact e
      · rw [if_neg a2, if_pos rfl]; exact e
    · by_cases a2 : i = b
      · subst a2
        refine ⟨k, hk, ?_⟩
        show (if k = k then σ i else _) = j
        rw [if_pos rfl]; exact e
      · refine ⟨i, hi, ?_⟩
        show (if i = k then σ b else if i = b then σ k else σ i) = j
        rw [if_neg a1, if_neg a2]; exact e
  · show swL A (4000 * d + 4 * k) (4000 * d + 4 * b) 4 (4000 * d + 4 * i + l) = A0 (4000 * d + 4 * (if i = k then σ b else if i = b then σ k else σ i) + l)
    unfold swL
    by_cases a1 : i = k
    · rw [if_pos (by omega), if_pos a1, ← h4 b l hb hl]
      congr 1; omega
    · rw [if_neg (by omega), if_neg a1]
      by_cases a2 : i = b
      · rw [if_pos (by omega), if_pos a2, ← h4 k l hk hl]
        congr 1; omega
      · rw [if_neg (by omega), if_neg a2]
        exact h4 i l hi hl
  · unfold swL
    rw [if_neg (by omega), if_neg (by omega)]
    exact h5 j hj
theorem p_o2 (m : x_m) {A0 : Nat → Int32} {d c : Nat} (hd : d < 8) (hc : c ≤ 1000) (h390 : m.2.1 390 d = xI c) : ∀ (w k f : Nat) (A : Nat → Int32) (σ : Nat → Nat), k + w = c → w < f → PmS A0 A d c σ → (∀ i j, i < k → i < j → j < c → A (4000 * d + 4 * i) ≤ A (4000 * d + 4 * j)) →
    ∃ A' σ', B_MD_order_2 f (xI d) (xI k) (w391 m A) = some (w391 m A') ∧ PmS A0 A' d c σ' ∧ (∀ i j, i < j → j < c → A' (4000 * d + 4 * i) ≤ A' (4000 * d + 4 * j)) := by
  intro w
  induction w with
  | zero =>
    intro k f A σ hk hf hp hs
    cases f with
    | zero => omega
    | succ f =>
      rw [B_MD_order_2, xI_ix (by omega), if_pos (show decide (d < 8) = true by simp; omega), xI_cl (by omega), w391_o _ _ (by omega), h390, if_pos (by rw [xI_le (by omega) (by omega)]; omega)]
      exact ⟨A, σ, rfl, hp, fun i j x y => hs i j (by omega) x y⟩
  | succ w ih =>
    intro k f A σ hk hf hp hs
    cases f with
    | zero => omega
    | succ f =>
      rw [B_MD_order_2, xI_ix (by omega), if_pos (show decide (d < 8) = true by simp; omega), xI_cl (by omega), w391_o _ _ (by omega), h390, if_neg (by rw [xI_le (by omega) (by omega)]; omega), xI_add1]
      obtain ⟨b, e1, b1, b2, b3⟩ := p_o19 (B_MD_order_2 f) m A hd hc h390 (k := k) (c - (k + 1)) (k + 1) k x_fu (by omega) (by unfold x_fu; omega) (by omega) (by omega) (fun i x y => by rw [show i = k by omega]; exact Int32.le_refl _)
      rw [e1]
      have e2 := p_o78 (B_MD_order_2 f) m A hd (show k < 1000 by omega) (show b < 1000 by omega) 4 0 x_fu (by omega) (by unfold x_fu; omega)
      rw [swL_0] at e2
      rw [e2]
      have pm := PmS_sw hp hc (show k < c by omega) b2
      have v : ∀ i, swL A (4000 * d + 4 * k) (4000 * d + 4 * b) 4 (4000 * d + 4 * i) = A (4000 * d + 4 * (if i = k then b else if i = b then k else i)) := by
        intro i
        unfold swL
        by_cases a1 : i = k
        · rw [if_pos (by omega), if_pos a1]
          congr 1; omega
        · rw [if_neg (by omega), if_neg a1]
          by_cases a2 : i = b
          · rw [if_pos (by omega), if_pos a2]
            congr 1; omega
          · rw [if_neg (by omega), if_neg a2]
      refine ih (k + 1) f _ _ (by omega) (by omega) pm (fun i j x y z => ?_)
      rw [v, v]
      by_cases a1 : i = k
      · rw [if_pos a1]
        by_cases a2 : j = b
        · rw [if_neg (show ¬ j = k by omega), if_pos a2]
          exact b3 k (by omega) (by omega)
        · rw [if_neg (show ¬ j = k by omega), if_neg a2]
          exact b3 j (by omega) z
      · rw [if_neg a1, if_neg (show ¬ i = b by omega)]
        by_cases a3 : j = k
        · rw [if_pos a3]; exact hs i b (by omega) (by omega) b2
        · rw [if_neg a3]
          by_cases a2 : j = b
          · rw [if_pos a2]; exact hs i k (by omega) (by omega) (by omega)
          · rw [if_neg a2]; exact hs i j (by omega) y z
theorem PmS_id (A : Nat → Int32) (d c : Nat) : PmS A A d c (fun i => i) := ⟨fun i h => h, fun _ _ _ _ e => e, fun j h => ⟨j, h, rfl⟩, fun _ _ _ _ => rfl, fun _ _ => rfl⟩
theorem F_MD_order_eq {m : x_m} {d c : Nat} (hd : d < 8) (hc : c ≤ 1000) (h390 : m.2.1 390 d = xI c) : ∃ A' σ', F_MD_order (xI d) m = some (w391 m A') ∧ PmS (m.2.1 391) A' d c σ' ∧ (∀ i j, i < j → j < c → A' (4000 * d + 4 * i) ≤ A' (4000 * d + 4 * j)) := by
  have := p_o2 m (A0 := m.2.1 391) hd hc h390 c 0 x_fu (m.2.1 391) (fun i => i) (by omega) (by unfold x_fu; omega) (PmS_id _ _ _) (fun i j x => by omega)
  rw [w391_self] at this
  exact this
