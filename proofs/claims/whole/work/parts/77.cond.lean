/-! conditions: what their parts say -/
/-- truths of the parts behind j joints, from those of the comparisons -/
def tvL (M : x_m) (p : Nat) (a : Nat → Bool) : Nat → Nat → Bool
  | 0, x => a x != decide (M.2.1 (p + 5) x = 1)
  | j + 1, x => if x = 60 + j then ((if M.2.1 (p + 4) j = 0 then (tvL M p a j (M.2.1 (p + 2) j).toNatClampNeg || tvL M p a j (M.2.1 (p + 3) j).toNatClampNeg) else (tvL M p a j (M.2.1 (p + 2) j).toNatClampNeg && tvL M p a j (M.2.1 (p + 3) j).toNatClampNeg)) != decide (M.2.1 (p + 5) (60 + j) = 1)) else tvL M p a j x
def vld (cc jc x : Nat) : Prop := x < cc ∨ (60 ≤ x ∧ x < 60 + jc)
theorem vld_mono {cc jc cc' jc' x : Nat} (h : vld cc jc x) (h1 : cc ≤ cc') (h2 : jc ≤ jc') : vld cc' jc' x := by unfold vld at *; omega
theorem tv_stable (M : x_m) (p : Nat) (a : Nat → Bool) (j : Nat) : ∀ d x, x < 60 + j → tvL M p a (j + d) x = tvL M p a j x
  | 0, _, _ => rfl
  | d + 1, x, h => by
    show (if x = 60 + (j + d) then _ else tvL M p a (j + d) x) = _
    rw [if_neg (by omega)]
    exact tv_stable M p a j d x h
theorem tv_le (M : x_m) (p : Nat) (a : Nat → Bool) {j j' x : Nat} (h : j ≤ j') (hx : x < 60 + j) : tvL M p a j' x = tvL M p a j x := by
  have := tv_stable M p a j (j' - j) x hx
  rwa [show j + (j' - j) = j' by omega] at this
/-- each joint joins parts before it -/
def clo (M : x_m) (p cc jc : Nat) : Prop := ∀ j, j < jc → ∃ l r, vld cc j l ∧ vld cc j r ∧ M.2.1 (p + 2) j = xI l ∧ M.2.1 (p + 3) j = xI r ∧ (M.2.1 (p + 4) j = 0 ∨ M.2.1 (p + 4) j = 1)
/-- the parts before are as they were -/
def agM (M M' : x_m) (p cc jc : Nat) : Prop := (∀ j, j < jc → M'.2.1 (p + 2) j = M.2.1 (p + 2) j ∧ M'.2.1 (p + 3) j = M.2.1 (p + 3) j ∧ M'.2.1 (p + 4) j = M.2.1 (p + 4) j) ∧ (∀ x, vld cc jc x → M'.2.1 (p + 5) x = M.2.1 (p + 5) x)
theorem agM_refl (M : x_m) (p cc jc : Nat) : agM M M p cc jc := ⟨fun _ _ => ⟨rfl, rfl, rfl⟩, fun _ _ => rfl⟩
theorem agM_trans {M M' M'' : x_m} {p cc jc cc' jc' : Nat} (h : agM M M' p cc jc) (h' : agM M' M'' p cc' jc') (h1 : cc ≤ cc') (h2 : jc ≤ jc') : agM M M'' p cc jc :=
  ⟨fun j hj => ⟨((h'.1 j (by omega)).1).trans (h.1 j hj).1, ((h'.1 j (by omega)).2.1).trans (h.1 j hj).2.1, ((h'.1 j (by omega)).2.2).trans (h.1 j hj).2.2⟩, fun x hx => (h'.2 x (vld_mono hx h1 h2)).trans (h.2 x hx)⟩
theorem agM_mono {M M' : x_m} {p cc jc cc' jc' : Nat} (h : agM M M' p cc' jc') (h1 : cc ≤ cc') (h2 : jc ≤ jc') : agM M M' p cc jc :=
  ⟨fun j hj => h.1 j (by omega), fun x hx => h.2 x (vld_mono hx h1 h2)⟩
theorem tv_congr {M M' : x_m} {p cc jc : Nat} (hcc : cc ≤ 60) (hj59 : jc ≤ 59) (hc : clo M p cc jc) (h : agM M M' p cc jc) (a : Nat → Bool) : ∀ j, j ≤ jc → ∀ x, vld cc j x → tvL M' p a j x = tvL M p a j x := by
  intro j
  induction j with
  | zero =>
    intro _ x hx
    show (a x != decide (M'.2.1 (p + 5) x = 1)) = (a x != decide (M.2.1 (p + 5) x = 1))
    rw [h.2 x (vld_mono hx (Nat.le_refl _) (by omega))]
  | succ j ih =>
    intro hj x hx
    rw [tvL, tvL]
    by_cases e : x = 60 + j
    · rw [if_pos e, if_pos e]
      obtain ⟨l, r, v1, v2, e1, e2, _⟩ := hc j (by omega)
      obtain ⟨h1, h2, h3⟩ := h.1 j (by omega)
      have lb : l < 119 := by unfold vld at v1; omega
      have rb : r < 119 := by unfold vld at v2; omega
      rw [h1, h2, h3, e1, e2, xI_cl (by omega), xI_cl (by omega), ih (by omega) l v1, ih (by omega) r v2, h.2 (60 + j) (by unfold vld; omega)]
    · rw [if_neg e, if_neg e]
      exact ih (by omega) x (by unfold vld at *; omega)
/-- one part turned round -/
theorem tv_flip {M M' : x_m} {p cc jc x : Nat} (hcc : cc ≤ 60) (hj59 : jc ≤ 59) (hc : clo M p cc jc) (hx : vld cc jc x) (h : ∀ j, j < jc → M'.2.1 (p + 2) j = M.2.1 (p + 2) j ∧ M'.2.1 (p + 3) j = M.2.1 (p + 3) j ∧ M'.2.1 (p + 4) j = M.2.1 (p + 4) j) (hn : ∀ y, y ≠ x → M'.2.1 (p + 5) y = M.2.1 (p + 5) y)
    (hf : decide (M'.2.1 (p + 5) x = 1) = !decide (M.2.1 (p + 5) x = 1)) (a : Nat → Bool) : tvL M' p a jc x = !tvL M p a jc x := by
  have bx : ∀ (u v : Bool), (u != !v) = !(u != v) := by decide
  by_cases h60 : x < 60
  · rw [tv_le M' p a (Nat.zero_le jc) (by omega), tv_le M p a (Nat.zero_le jc) (by omega)]
    show (a x != decide (M'.2.1 (p + 5) x = 1)) = !(a x != decide (M.2.1 (p + 5) x = 1))
    rw [hf, bx]
  · obtain ⟨j, hj⟩ : ∃ j, x = 60 + j := ⟨x - 60, by omega⟩
    subst hj
    have hjc : j < jc := by unfold vld at hx; omega
    rw [tv_le M' p a (show j + 1 ≤ jc by omega) (by omega), tv_le M p a (show j + 1 ≤ jc by omega) (by omega), tvL, tvL, if_pos rfl, if_pos rfl]
    obtain ⟨l, r, v1, v2, e1, e2, _⟩ := hc j hjc
    have lb : l < 119 := by unfold vld at v1; omega
    have rb : r < 119 := by unfold vld at v2; omega
    obtain ⟨h1, h2, h3⟩ := h j hjc
    have cl : clo M p cc j := fun i hi => hc i (by omega)
    have ag : agM M M' p cc j := ⟨fun i hi => h i (by omega), fun y hy => hn y (by unfold vld at hy; omega)⟩
    rw [h1, h2, h3, e1, e2, xI_cl (by omega), xI_cl (by omega), tv_congr hcc (by omega) cl ag a j (Nat.le_refl j) l v1, tv_congr hcc (by omega) cl ag a j (Nat.le_refl j) r v2, hf, bx]
/-! the class's lines -/
theorem nar_b {v : Int32} (h : v = 0 ∨ v = 1) : vp_nar .boolean v = v := by rcases h with h | h <;> subst h <;> rfl
def jnM (m : x_m) (p jc : Nat) (l x an : Int32) : x_m := x_wS (x_wA (x_wA (x_wA (x_wA m (p + 2) jc l) (p + 3) jc x) (p + 4) jc an) (p + 5) (60 + jc) 0) p 3 (xI (jc + 1))
theorem F_CN_join_none (p : Nat) (an x : Int32) (m : x_m) : F_CN_join p an (-1) x m = some (x, m) := by
  unfold F_CN_join B_CN_join_14
  rw [if_pos rfl]
theorem F_CN_join_eq {m : x_m} {p jc l : Nat} (x an : Int32) (h : m.1 p 3 = xI jc) (hj : jc < 59) (hl : l < 119) (ha : an = 0 ∨ an = 1) : F_CN_join p an (xI l) x m = some (xI (60 + jc), jnM m p jc (xI l) x an) := by
  unfold F_CN_join jnM
  rw [if_neg (xI_neg1 (by omega))]
  simp only [xw_A1, h, nar_b ha, nar_b (Or.inl rfl : (0 : Int32) = 0 ∨ (0 : Int32) = 1)]
  rw [if_pos (by show xI jc < xI 59; rw [xI_lt (by omega) (by omega)]; omega), xI_ix (by omega), xI_cl (by omega), show (60 : Int32) + xI jc = xI (60 + jc) from xI_add 60 jc, xI_ix (by omega), xI_cl (by omega), xI_add1]
  simp only [show (decide (jc < 59) = true) = True from by simp; omega, show (decide (60 + jc < 119) = true) = True from by simp; omega, if_true]
/-- the state of a condition that is read: counts, lines' depth -/
def CI (M : x_m) (p cc jc dp : Nat) : Prop := M.1 p 0 = xI cc ∧ M.1 p 3 = xI jc ∧ M.1 p 1 = xI dp ∧ cc ≤ 60 ∧ jc ≤ 59 ∧ dp ≤ 40 ∧ clo M p cc jc ∧ (∀ x, vld cc jc x → M.2.1 (p + 5) x = 0 ∨ M.2.1 (p + 5) x = 1)
/-- frames of a condition's own -/
def pN (p a _b : Nat) : Prop := a = p
def qN' (p a : Nat) : Prop := p + 2 ≤ a ∧ a ≤ p + 9
/-- lines under d are as they were -/
def lnK (M M' : x_m) (p d : Nat) : Prop := ∀ i, i < d → M'.2.1 (p + 7) i = M.2.1 (p + 7) i ∧ M'.2.1 (p + 8) i = M.2.1 (p + 8) i ∧ M'.2.1 (p + 9) i = M.2.1 (p + 9) i
theorem lnK_refl (M : x_m) (p d : Nat) : lnK M M p d := fun _ _ => ⟨rfl, rfl, rfl⟩
theorem lnK_trans {M M' M'' : x_m} {p d d' : Nat} (h : lnK M M' p d) (h' : lnK M' M'' p d') (hd : d ≤ d') : lnK M M'' p d := fun i hi => ⟨((h' i (by omega)).1).trans (h i hi).1, ((h' i (by omega)).2.1).trans (h i hi).2.1, ((h' i (by omega)).2.2).trans (h i hi).2.2⟩
theorem jnM_1 (m : x_m) (p jc : Nat) (l x an : Int32) (a b : Nat) : (jnM m p jc l x an).1 a b = if a = p ∧ b = 3 then xI (jc + 1) else m.1 a b := rfl
theorem jnM_2 (m : x_m) (p jc : Nat) (l x an : Int32) (a i : Nat) : (jnM m p jc l x an).2.1 a i = if a = p + 5 ∧ i = 60 + jc then 0 else if a = p + 4 ∧ i = jc then an else if a = p + 3 ∧ i = jc then x else if a = p + 2 ∧ i = jc then l else m.2.1 a i := rfl
theorem fr_jnM (m : x_m) (p jc : Nat) (l x an : Int32) : fr (pN p) (qN' p) m (jnM m p jc l x an) := by
  unfold jnM
  exact fr_trans (fr_wA _ _ _ _ (by unfold qN'; omega)) (fr_trans (fr_wA _ _ _ _ (by unfold qN'; omega)) (fr_trans (fr_wA _ _ _ _ (by unfold qN'; omega)) (fr_trans (fr_wA _ _ _ _ (by unfold qN'; omega)) (fr_wS _ _ _ _ rfl))))
/-- a joint made: what it says -/
theorem join_spec {M : x_m} {p cc jc dp l x : Nat} (hI : CI M p cc jc dp) (hj : jc < 59) (hl : vld cc jc l) (hx : vld cc jc x) (an : Int32) (ha : an = 0 ∨ an = 1) :
    CI (jnM M p jc (xI l) (xI x) an) p cc (jc + 1) dp ∧ agM M (jnM M p jc (xI l) (xI x) an) p cc jc ∧ vld cc (jc + 1) (60 + jc) ∧ (∀ a, tvL (jnM M p jc (xI l) (xI x) an) p a (jc + 1) (60 + jc) = if an = 0 then (tvL M p a jc l || tvL M p a jc x) else (tvL M p a jc l && tvL M p a jc x)) ∧ (∀ a i, p + 7 ≤ a → (jnM M p jc (xI l) (xI x) an).2.1 a i = M.2.1 a i) := by
  obtain ⟨c1, c2, c3, c4, c5, c6, c7, c8⟩ := hI
  have ag : agM M (jnM M p jc (xI l) (xI x) an) p cc jc := by
    refine ⟨fun j hj' => ?_, fun y hy => ?_⟩
    · simp only [jnM_2]
      refine ⟨?_, ?_, ?_⟩
      · rw [if_neg (by omega), if_neg (by omega), if_neg (by omega), if_neg (by omega)]
      · rw [if_neg (by omega), if_neg (by omega), if_neg (by omega), if_neg (by omega)]
      · rw [if_neg (by omega), if_neg (by omega), if_neg (by omega), if_neg (by omega)]
    · rw [jnM_2, if_neg (by unfold vld at hy; omega), if_neg (by omega), if_neg (by omega), if_neg (by omega)]
  have e2 : (jnM M p jc (xI l) (xI x) an).2.1 (p + 2) jc = xI l := by rw [jnM_2, if_neg (by omega), if_neg (by omega), if_neg (by omega), if_pos ⟨rfl, rfl⟩]
  have e3 : (jnM M p jc (xI l) (xI x) an).2.1 (p + 3) jc = xI x := by rw [jnM_2, if_neg (by omega), if_neg (by omega), if_pos ⟨rfl, rfl⟩]
  have e4 : (jnM M p jc (xI l) (xI x) an).2.1 (p + 4) jc = an := by rw [jnM_2, if_neg (by omega), if_pos ⟨rfl, rfl⟩]
  have e5 : (jnM M p jc (xI l) (xI x) an).2.1 (p + 5) (60 + jc) = 0 := by rw [jnM_2, if_pos ⟨rfl, rfl⟩]
  have lb : l < 119 := by unfold vld at hl; omega
  have xb : x < 119 := by unfold vld at hx; omega
  refine ⟨⟨?_, ?_, ?_, c4, by omega, c6, fun j hj' => ?_, fun y hy => ?_⟩, ag, by unfold vld; omega, fun a => ?_, fun a i h => ?_⟩
  · rw [jnM_1, if_neg (by omega)]; exact c1
  · rw [jnM_1, if_pos ⟨rfl, rfl⟩]
  · rw [jnM_1, if_neg (by omega)]; exact c3
  · by_cases e : j = jc
    · subst e; exact ⟨l, x, hl, hx, e2, e3, by rw [e4]; exact ha⟩
    · obtain ⟨l', r', v1, v2, w1, w2, w3⟩ := c7 j (by omega)
      obtain ⟨y1, y2, y3⟩ := ag.1 j (by omega)
      exact ⟨l', r', v1, v2, y1.trans w1, y2.trans w2, by rw [y3]; exact w3⟩
  · by_cases e : y = 60 + jc
    · rw [e, e5]; exact Or.inl rfl
    · have hy' : vld cc jc y := by unfold vld at *; omega
      rw [ag.2 y hy']; exact c8 y hy'
  · rw [tvL, if_pos rfl, e2, e3, e4, e5, xI_cl (by omega), xI_cl (by omega), tv_congr c4 c5 c7 ag a jc (Nat.le_refl _) l hl, tv_congr c4 c5 c7 ag a jc (Nat.le_refl _) x hx]
    rw [decide_eq_false (show ¬ (0 : Int32) = 1 by decide)]
    cases (if an = 0 then (tvL M p a jc l || tvL M p a jc x) else (tvL M p a jc l && tvL M p a jc x)) <;> rfl
  · rw [jnM_2, if_neg (by omega), if_neg (by omega), if_neg (by omega), if_neg (by omega)]
theorem jnM_ct (M : x_m) (k s e : Nat) {p : Nat} (hp : p ≠ 3) (jc : Nat) (l x an : Int32) : jnM (ct M k s e) p jc l x an = ct (jnM M p jc l x an) k s e := by
  unfold jnM
  rw [ct_wA, ct_wA, ct_wA, ct_wA, ct_wS _ _ _ _ _ hp]
/-- the truths of a line's and-row with a part more -/
def anV (o : Option Bool) (g : Bool) : Bool := match o with
  | none => g
  | some x => x && g
