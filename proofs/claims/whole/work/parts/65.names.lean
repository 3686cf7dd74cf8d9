/-! names -/
def eqn (L b : Nat → Int32) : Nat → Nat → Nat → Bool
  | 0, _, _ => true
  | k + 1, i, j => decide (L i = b j) && eqn L b k (i + 1) (j + 1)
def nmB (L ln b : Nat → Int32) (s e slot : Nat) : Bool := decide (ln slot = xI (e - s)) && eqn L b (e - s) (40 * slot) s
def nmI (L ln b : Nat → Int32) (s e first : Nat) : Nat → Nat → Int32
  | 0, _ => -1
  | k + 1, i => if nmB L ln b s e (first + i) = true then xI i else nmI L ln b s e first k (i + 1)
theorem nmI_cases (L ln b : Nat → Int32) (s e first : Nat) : ∀ k i, nmI L ln b s e first k i = -1 ∨ ∃ j, i ≤ j ∧ j < i + k ∧ nmI L ln b s e first k i = xI j
  | 0, _ => Or.inl rfl
  | k + 1, i => by
    rw [nmI]
    by_cases h : nmB L ln b s e (first + i) = true
    · rw [if_pos h]; exact Or.inr ⟨i, Nat.le_refl i, by omega, rfl⟩
    · rw [if_neg h]
      rcases nmI_cases L ln b s e first k (i + 1) with z | ⟨j, h1, h2, h3⟩
      · exact Or.inl z
      · exact Or.inr ⟨j, by omega, by omega, h3⟩
theorem xI_neg1 {j : Nat} (h : j < 2147483648) : ¬ xI j = -1 := by
  intro z
  have : xI j < 0 := by rw [z]; decide
  rw [xI_ge0 h] at this
  exact this
theorem xI_not_neg {j : Nat} (h : j < 2147483648) : ¬ xI j < 0 := by rw [xI_ge0 h]; exact id
theorem xI_nonneg {j : Nat} (h : j < 2147483648) : 0 ≤ xI j := Int32.not_lt.mp (xI_not_neg h)
theorem p_isSame {m : x_m} {s e slot : Nat} (hs : slot < 48) (hse : s ≤ e) (he : e ≤ 20000) (h40 : e - s ≤ 40) (h2 : m.1 3 2 = xI s) : ∀ (k j f : Nat), j + k = e - s → k < f →
    B_NM_isSame_25 f (xI slot) (xI (e - s)) (xI j) m = some (bI (eqn (m.2.1 6) (m.2.1 2) k (40 * slot + j) (s + j)), m) := by
  intro k
  induction k with
  | zero =>
    intro j f hj hf
    cases f with
    | zero => omega
    | succ f =>
      rw [B_NM_isSame_25, if_pos (by rw [xI_le (by omega) (by omega)]; omega)]
      rfl
  | succ k ih =>
    intro j f hj hf
    cases f with
    | zero => omega
    | succ f =>
      rw [B_NM_isSame_25, if_neg (by rw [xI_le (by omega) (by omega)]; omega), show xI slot * 40 = xI (slot * 40) from xI_mul slot 40, xI_add, h2, xI_add, xI_ix (by omega), xI_ix (by omega), if_pos (by simp; omega), if_pos (by simp; omega), xI_cl (by omega), xI_cl (by omega), xI_add1, ih (j + 1) f (by omega) (by omega)]
      rw [eqn, show slot * 40 + j = 40 * slot + j by omega, show 40 * slot + (j + 1) = 40 * slot + j + 1 by omega, show s + (j + 1) = s + j + 1 by omega]
      by_cases h : m.2.1 6 (40 * slot + j) = m.2.1 2 (s + j)
      · rw [if_pos h, decide_eq_true h, Bool.true_and]
      · rw [if_neg h, decide_eq_false h, Bool.false_and]; rfl
theorem F_NM_isSame_eq {M : x_m} {k s e slot : Nat} (hs : slot < 48) (hse : s ≤ e) (he : e ≤ 20000) (h40 : e - s ≤ 40) : F_NM_isSame (xI slot) (ct M k s e) = some (bI (nmB (M.2.1 6) (M.2.1 7) (M.2.1 2) s e slot), ct M k s e) := by
  unfold F_NM_isSame nmB
  rw [xI_ix (by omega), if_pos (by simp; omega), xI_cl (by omega), show (ct M k s e).1 3 3 = xI e from rfl, show (ct M k s e).1 3 2 = xI s from rfl, xI_sub hse, show (ct M k s e).2.1 = M.2.1 from rfl]
  by_cases h : M.2.1 7 slot = xI (e - s)
  · rw [if_pos h, decide_eq_true h, Bool.true_and, show (0 : Int32) = xI 0 from rfl, p_isSame (m := ct M k s e) hs hse he h40 rfl (e - s) 0 x_fu (by omega) (by unfold x_fu; omega)]
    rfl
  · rw [if_neg h, decide_eq_false h, Bool.false_and]; rfl
theorem p_search {M : x_m} {k s e first cnt : Nat} (hf : first + cnt ≤ 48) (hse : s ≤ e) (he : e ≤ 20000) (h40 : e - s ≤ 40) : ∀ (d i f : Nat), i + d = cnt → d < f →
    B_NM_search_3 f (xI first) (xI cnt) (xI i) (ct M k s e) = some (nmI (M.2.1 6) (M.2.1 7) (M.2.1 2) s e first d i, ct M k s e) := by
  intro d
  induction d with
  | zero =>
    intro i f hi hf2
    cases f with
    | zero => omega
    | succ f =>
      rw [B_NM_search_3, if_pos (by rw [xI_le (by omega) (by omega)]; omega)]
      rfl
  | succ d ih =>
    intro i f hi hf2
    cases f with
    | zero => omega
    | succ f =>
      rw [B_NM_search_3, if_neg (by rw [xI_le (by omega) (by omega)]; omega), xI_add, F_NM_isSame_eq (by omega) hse he h40, Option.bind_some]
      show (if bI _ = 0 then _ else _) = _
      simp only [bI_0]
      rw [xI_add1, ih (i + 1) f (by omega) (by omega), nmI]
      by_cases h : nmB (M.2.1 6) (M.2.1 7) (M.2.1 2) s e (first + i) = true
      · rw [if_pos h, if_neg (by rw [h]; decide)]
      · rw [if_neg h, if_pos (by simpa using h)]
theorem F_NM_search_eq {M : x_m} {k s e first cnt : Nat} (hf : first + cnt ≤ 48) (hse : s ≤ e) (he : e ≤ 20000) (h40 : e - s ≤ 40) :
    F_NM_search (xI first) (xI cnt) (ct M k s e) = some (nmI (M.2.1 6) (M.2.1 7) (M.2.1 2) s e first cnt 0, ct M k s e) :=
  p_search hf hse he h40 cnt 0 x_fu (by omega) (by unfold x_fu; omega)
theorem p_isName {m : x_m} {s e slot : Nat} (hs : slot < 48) (hse : s ≤ e) (he : e ≤ 20000) (h40 : e - s ≤ 40) (h8 : m.1 387 8 = xI s) (hl : m.2.1 394 slot = xI (e - s)) : ∀ (k j f : Nat), j + k = e - s → k < f →
    B_MD_isName_26 f (xI slot) 1 (xI j) m = some (bI (eqn (m.2.1 393) (m.2.1 388) k (40 * slot + j) (s + j)), m) := by
  intro k
  induction k with
  | zero =>
    intro j f hj hf
    cases f with
    | zero => omega
    | succ f =>
      rw [B_MD_isName_26, xI_ix (by omega), if_pos (by simp; omega), xI_cl (by omega), hl, if_pos (by rw [xI_le (by omega) (by omega)]; omega)]
      rfl
  | succ k ih =>
    intro j f hj hf
    cases f with
    | zero => omega
    | succ f =>
      rw [B_MD_isName_26, xI_ix (by omega), if_pos (by simp; omega), xI_cl (by omega), hl, if_neg (by rw [xI_le (by omega) (by omega)]; omega), if_neg (by decide), show 40 * xI slot = xI (40 * slot) from xI_mul 40 slot, xI_add, h8, xI_add, xI_ix (by omega), xI_ix (by omega), if_pos (by simp; omega), if_pos (by simp; omega), xI_cl (by omega), xI_cl (by omega)]
      unfold B_MD_isName_70
      rw [xI_add1, eqn]
      by_cases h : m.2.1 393 (40 * slot + j) = m.2.1 388 (s + j)
      · rw [if_pos h, ih (j + 1) f (by omega) (by omega), decide_eq_true h, Bool.true_and, show 40 * slot + (j + 1) = 40 * slot + j + 1 by omega, show s + (j + 1) = s + j + 1 by omega]
      · rw [if_neg h, decide_eq_false h, Bool.false_and]
        cases f with
        | zero => omega
        | succ f =>
          rw [B_MD_isName_26, xI_ix (by omega), if_pos (by simp; omega), xI_cl (by omega), hl]
          by_cases h2 : xI (e - s) ≤ xI (j + 1)
          · rw [if_pos h2]; rfl
          · rw [if_neg h2, if_pos rfl]; rfl
theorem F_MD_isName_eq {R : x_m} {k s e slot : Nat} (hs : slot < 48) (hse : s ≤ e) (he : e ≤ 20000) (h40 : e - s ≤ 40) : F_MD_isName (xI slot) (rt R k s e) = some (bI (nmB (R.2.1 393) (R.2.1 394) (R.2.1 388) s e slot), rt R k s e) := by
  unfold F_MD_isName nmB B_MD_isName_23
  rw [xI_ix (by omega), if_pos (by simp; omega), xI_cl (by omega), show (rt R k s e).1 387 7 = xI e from rfl, show (rt R k s e).1 387 8 = xI s from rfl, xI_sub hse, show (rt R k s e).2.1 = R.2.1 from rfl]
  by_cases h : R.2.1 394 slot = xI (e - s)
  · rw [if_pos h, decide_eq_true h, Bool.true_and, show (0 : Int32) = xI 0 from rfl, p_isName (m := rt R k s e) hs hse he h40 rfl h (e - s) 0 x_fu (by omega) (by unfold x_fu; omega)]
    rfl
  · rw [if_neg h, decide_eq_false h, Bool.false_and]
    rw [show x_fu = 199999 + 1 from rfl, B_MD_isName_26, xI_ix (by omega), if_pos (by simp; omega), xI_cl (by omega)]
    by_cases h2 : (rt R k s e).2.1 394 slot ≤ 0
    · rw [if_pos h2]; rfl
    · rw [if_neg h2, if_pos rfl]; rfl
theorem p_among {R : x_m} {k s e first cnt : Nat} (hf : first + cnt ≤ 48) (hse : s ≤ e) (he : e ≤ 20000) (h40 : e - s ≤ 40) : ∀ (d i f : Nat), i + d = cnt → d < f →
    B_MD_among_2 f (xI first) (xI cnt) (xI i) (rt R k s e) = some (nmI (R.2.1 393) (R.2.1 394) (R.2.1 388) s e first d i, rt R k s e) := by
  intro d
  induction d with
  | zero =>
    intro i f hi hf2
    cases f with
    | zero => omega
    | succ f =>
      rw [B_MD_among_2, if_pos (by rw [xI_le (by omega) (by omega)]; omega)]
      rfl
  | succ d ih =>
    intro i f hi hf2
    cases f with
    | zero => omega
    | succ f =>
      rw [B_MD_among_2, if_neg (by rw [xI_le (by omega) (by omega)]; omega), xI_add, F_MD_isName_eq (by omega) hse he h40, Option.bind_some]
      show (if bI _ = 0 then _ else _) = _
      simp only [bI_0]
      rw [xI_add1, ih (i + 1) f (by omega) (by omega), nmI]
      by_cases h : nmB (R.2.1 393) (R.2.1 394) (R.2.1 388) s e (first + i) = true
      · rw [if_pos h, if_neg (by rw [h]; decide)]
      · rw [if_neg h, if_pos (by simpa using h)]
theorem F_MD_among_eq {R : x_m} {k s e first cnt : Nat} (hf : first + cnt ≤ 48) (hse : s ≤ e) (he : e ≤ 20000) (h40 : e - s ≤ 40) :
    F_MD_among (xI first) (xI cnt) (rt R k s e) = some (nmI (R.2.1 393) (R.2.1 394) (R.2.1 388) s e first cnt 0, rt R k s e) :=
  p_among hf hse he h40 cnt 0 x_fu (by omega) (by unfold x_fu; omega)
/-! a name kept -/
def nmK (L b : Nat → Int32) (s o k : Nat) : Nat → Int32 := fun i => if o ≤ i ∧ i < o + k then b (s + (i - o)) else L i
def yup (f : Nat → Int32) (j : Nat) (v : Int32) : Nat → Int32 := fun i => if i = j then v else f i
def ckp (M : x_m) (slot s e : Nat) : x_m := (M.1, fun a => if a = 6 then nmK (M.2.1 6) (M.2.1 2) s (40 * slot) (e - s) else if a = 7 then yup (M.2.1 7) slot (xI (e - s)) else M.2.1 a, M.2.2)
def rkp (R : x_m) (slot s e : Nat) : x_m := (R.1, fun a => if a = 393 then nmK (R.2.1 393) (R.2.1 388) s (40 * slot) (e - s) else if a = 394 then yup (R.2.1 394) slot (xI (e - s)) else R.2.1 a, R.2.2)
theorem isB_fits {x : Int32} (h : isB x) : fits .byte (.int x) = true := by
  obtain ⟨c, hc, rfl⟩ := h
  have : ∀ c, c < 256 → (decide (-128 ≤ sg c) && decide (sg c ≤ 127)) = true := by decide +kernel
  exact this c hc
theorem isB_nar {x : Int32} (h : isB x) : vp_nar .byte x = x := by
  obtain ⟨c, hc, rfl⟩ := h
  have : ∀ c, c < 256 → (sg c).toInt8.toInt32 = sg c := by decide +kernel
  exact this c hc
theorem F_NM_keep_eq {M : x_m} {k s e slot : Nat} (hs : slot < 48) (hse : s ≤ e) (he : e ≤ 20000) (h40 : e - s ≤ 40) (hb : ∀ j, isB (M.2.1 2 j)) : F_NM_keep (xI slot) (ct M k s e) = some (ct (ckp M slot s e) k s e) := by
  unfold F_NM_keep B_NM_keep_52
  rw [if_neg (by show ¬ (xI 48 ≤ _); rw [xI_le (by omega) (by omega)]; omega), show (ct M k s e).1 3 3 = xI e from rfl, show (ct M k s e).1 3 2 = xI s from rfl, xI_sub hse, if_neg (by show ¬ (xI 40 < _); rw [xI_lt (by omega) (by omega)]; omega)]
  rw [show xI slot * 40 = xI (slot * 40) from xI_mul slot 40]
  rw [if_pos (by
    unfold x_cg
    rw [xI_cl (by omega), xI_cl (by omega), xI_cl (by omega)]
    simp only [xI_not_neg (show s < 2147483648 by omega), xI_not_neg (show slot * 40 < 2147483648 by omega), xI_not_neg (show e - s < 2147483648 by omega)]
    simp; omega)]
  rw [if_pos (by
    unfold x_cb
    rw [xI_cl (by omega), xI_cl (by omega)]
    simp only [List.all_eq_true]
    intro i _
    exact isB_fits (hb (s + i)))]
  rw [xI_ix (by omega), if_pos (by simp; omega), xI_cl (by omega), xI_cl (by omega), xI_cl (by omega), xI_cl (by omega)]
  congr 1
  refine Prod.ext rfl (Prod.ext ?_ rfl)
  funext a i
  show (x_u2 _ 7 slot _ a i) = (if a = 6 then _ else if a = 7 then _ else _ : Nat → Int32) i
  unfold x_u2
  by_cases h6 : a = 6
  · subst h6
    rw [if_neg (by omega), if_pos rfl]
    show va_cpy _ _ _ _ _ i = _
    rw [show slot * 40 = 40 * slot by omega]
    rfl
  · rw [if_neg h6]
    by_cases h7 : a = 7
    · subst h7
      rw [if_pos rfl]
      show (if 7 = 7 ∧ i = slot then _ else _) = if i = slot then _ else _
      by_cases hi : i = slot
      · rw [if_pos ⟨rfl, hi⟩, if_pos hi]
      · rw [if_neg (fun z => hi z.2), if_neg hi]; rfl
    · rw [if_neg (fun z => h7 z.1), if_neg h7]
      show (if a = 6 then _ else _ : Nat → Int32) i = _
      rw [if_neg h6]
      rfl
theorem p_keep {s e slot : Nat} (hs : slot < 48) (hse : s ≤ e) (he : e ≤ 20000) (h40 : e - s ≤ 40) : ∀ (k j f : Nat) (m : x_m), j + k = e - s → k < f → m.1 387 8 = xI s → m.2.1 394 slot = xI (e - s) → (∀ i, isB (m.2.1 388 i)) →
    B_MD_keep_17 f (xI slot) (xI j) m = some (m.1, (fun a => if a = 393 then nmK (m.2.1 393) (m.2.1 388) (s + j) (40 * slot + j) k else m.2.1 a), m.2.2) := by
  intro k
  induction k with
  | zero =>
    intro j f m hj hf h8 hl hb
    cases f with
    | zero => omega
    | succ f =>
      rw [B_MD_keep_17, xI_ix (by omega), if_pos (by simp; omega), xI_cl (by omega), hl, if_pos (by rw [xI_le (by omega) (by omega)]; omega)]
      congr 1
      refine Prod.ext rfl (Prod.ext ?_ rfl)
      funext a i
      show m.2.1 a i = (if a = 393 then _ else _ : Nat → Int32) i
      by_cases h : a = 393
      · subst h
        rw [if_pos rfl]
        show _ = if 40 * slot + j ≤ i ∧ i < 40 * slot + j + 0 then _ else _
        rw [if_neg (by omega)]
      · rw [if_neg h]
  | succ k ih =>
    intro j f m hj hf h8 hl hb
    cases f with
    | zero => omega
    | succ f =>
      rw [B_MD_keep_17, xI_ix (by omega), if_pos (by simp; omega), xI_cl (by omega), hl, if_neg (by rw [xI_le (by omega) (by omega)]; omega), h8, xI_add, show 40 * xI slot = xI (40 * slot) from xI_mul 40 slot, xI_add, xI_ix (by omega), xI_ix (by omega), if_pos (by simp; omega), if_pos (by simp; omega), xI_cl (by omega), xI_cl (by omega), xI_add1, isB_nar (hb _)]
      rw [ih (j + 1) f (x_wA m 393 (40 * slot + j) (m.2.1 388 (s + j))) (by omega) (by omega) h8 hl hb]
      congr 1
      refine Prod.ext rfl (Prod.ext ?_ rfl)
      funext a i
      show (if a = 393 then _ else _ : Nat → Int32) i = (if a = 393 then _ else _ : Nat → Int32) i
      by_cases h : a = 393
      · subst h
        rw [if_pos rfl, if_pos rfl]
        show (if 40 * slot + (j + 1) ≤ i ∧ i < 40 * slot + (j + 1) + k then m.2.1 388 (s + (j + 1) + (i - (40 * slot + (j + 1)))) else x_u2 m.2.1 393 (40 * slot + j) (m.2.1 388 (s + j)) 393 i) = if 40 * slot + j ≤ i ∧ i < 40 * slot + j + (k + 1) then m.2.1 388 (s + j + (i - (40 * slot + j))) else m.2.1 393 i
        unfold x_u2
        by_cases h1 : i = 40 * slot + j
        · rw [if_neg (by omega), if_pos ⟨rfl, h1⟩, if_pos (by omega), h1, Nat.sub_self]; rfl
        · by_cases h2 : 40 * slot + j ≤ i ∧ i < 40 * slot + j + (k + 1)
          · rw [if_pos h2, if_pos (show 40 * slot + (j + 1) ≤ i ∧ i < 40 * slot + (j + 1) + k by omega), show s + (j + 1) + (i - (40 * slot + (j + 1))) = s + j + (i - (40 * slot + j)) by omega]
          · rw [if_neg h2, if_neg (show ¬ (40 * slot + (j + 1) ≤ i ∧ i < 40 * slot + (j + 1) + k) by omega), if_neg (fun z => h1 z.2)]
      · rw [if_neg h, if_neg h]
        show x_u2 _ _ _ _ a i = _
        unfold x_u2
        rw [if_neg (fun z => h z.1)]
theorem F_MD_keep_eq {R : x_m} {k s e slot : Nat} (hs : slot < 48) (hse : s ≤ e) (he : e ≤ 20000) (h40 : e - s ≤ 40) (hb : ∀ j, isB (R.2.1 388 j)) : F_MD_keep (xI slot) (rt R k s e) = some (rt (rkp R slot s e) k s e) := by
  unfold F_MD_keep
  rw [xI_ix (by omega), if_pos (by simp; omega), xI_cl (by omega), show (rt R k s e).1 387 7 = xI e from rfl, show (rt R k s e).1 387 8 = xI s from rfl, xI_sub hse, show (0 : Int32) = xI 0 from rfl]
  rw [p_keep hs hse he h40 (e - s) 0 x_fu (x_wA (rt R k s e) 394 slot (xI (e - s))) (by omega) (by unfold x_fu; omega) rfl (by show x_u2 _ 394 slot _ 394 slot = _; unfold x_u2; rw [if_pos ⟨rfl, rfl⟩]) hb]
  congr 1
  refine Prod.ext rfl (Prod.ext ?_ rfl)
  funext a i
  show (if a = 393 then _ else _ : Nat → Int32) i = (if a = 393 then _ else if a = 394 then _ else _ : Nat → Int32) i
  by_cases h : a = 393
  · subst h
    rw [if_pos rfl, if_pos rfl]
    rfl
  · rw [if_neg h, if_neg h]
    show x_u2 _ _ _ _ a i = _
    unfold x_u2
    by_cases h4 : a = 394
    · subst h4
      rw [if_pos rfl]
      show _ = if i = slot then _ else _
      by_cases hi : i = slot
      · rw [if_pos ⟨rfl, hi⟩, if_pos hi]
      · rw [if_neg (fun z => hi z.2), if_neg hi]; rfl
    · rw [if_neg (fun z => h4 z.1), if_neg h4]
      rfl
