/-! whether a row of values goes with those before it -/
def Vc (m : x_m) (p l i : Nat) : Int32 := m.2.1 (p + 2 + l) i
def Vr (m : x_m) (d l i : Nat) : Int32 := m.2.1 391 (4000 * d + 4 * i + l)
def okS (V : Nat → Nat → Int32) (k r : Nat) : Nat → Nat → Bool → Bool
  | 0, _, _ => true
  | n + 1, l, sm => if sm = true ∧ ¬ V l k = V l r then false else okS V k r n (l + 1) (sm || decide (V l k = V l r))
theorem okS_t (V : Nat → Nat → Int32) (k r : Nat) : ∀ n l, okS V k r n l true = true ↔ ∀ l', l ≤ l' → l' < l + n → V l' k = V l' r
  | 0, l => ⟨fun _ l' h1 h2 => by omega, fun _ => rfl⟩
  | n + 1, l => by
    rw [okS, Bool.true_or]
    by_cases h : V l k = V l r
    · rw [if_neg (fun z => z.2 h), okS_t V k r n (l + 1)]
      constructor
      · intro z l' h1 h2
        by_cases e : l' = l
        · rw [e]; exact h
        · exact z l' (by omega) (by omega)
      · intro z l' h1 h2; exact z l' (by omega) (by omega)
    · rw [if_pos ⟨rfl, h⟩]
      constructor
      · intro z; exact absurd z (by decide)
      · intro z; exact absurd (z l (Nat.le_refl l) (by omega)) h
theorem okS_f (V : Nat → Nat → Int32) (k r : Nat) : ∀ n l, okS V k r n l false = true ↔ ∀ l1 l2, l ≤ l1 → l1 < l2 → l2 < l + n → V l1 k = V l1 r → V l2 k = V l2 r
  | 0, l => ⟨fun _ l1 l2 h1 h2 h3 => by omega, fun _ => rfl⟩
  | n + 1, l => by
    rw [okS, if_neg (fun z => absurd z.1 (by decide)), Bool.false_or]
    by_cases h : V l k = V l r
    · rw [decide_eq_true h, okS_t V k r n (l + 1)]
      constructor
      · intro z l1 l2 h1 h2 h3 _; exact z l2 (by omega) (by omega)
      · intro z l' h1 h2; exact z l l' (Nat.le_refl l) (by omega) (by omega) h
    · rw [decide_eq_false h, okS_f V k r n (l + 1)]
      constructor
      · intro z l1 l2 h1 h2 h3 h4
        by_cases e : l1 = l
        · rw [e] at h4; exact absurd h4 h
        · exact z l1 l2 (by omega) h2 (by omega) h4
      · intro z l1 l2 h1 h2 h3 h4; exact z l1 l2 (by omega) h2 (by omega) h4
/-- row r goes with row k -/
def goP (V : Nat → Nat → Int32) (L k r : Nat) : Prop := V 0 k ≠ V 0 r ∧ ∀ l1 l2, l1 < l2 → l2 < L → V l1 k = V l1 r → V l2 k = V l2 r
def goB (V : Nat → Nat → Int32) (L k r : Nat) : Bool := decide (V 0 k ≠ V 0 r) && okS V k r L 0 false
theorem goB_iff (V : Nat → Nat → Int32) (L k r : Nat) : goB V L k r = true ↔ goP V L k r := by
  unfold goB goP
  rw [Bool.and_eq_true, decide_eq_true_eq, okS_f]
  constructor
  · intro ⟨a, b⟩; exact ⟨a, fun l1 l2 h1 h2 h3 => b l1 l2 (by omega) h1 (by omega) h3⟩
  · intro ⟨a, b⟩; exact ⟨a, fun l1 l2 _ h1 h2 h3 => b l1 l2 h1 (by omega) h3⟩
def goA (V : Nat → Nat → Int32) (L r : Nat) : Nat → Nat → Bool
  | 0, _ => true
  | n + 1, k => if goB V L k r = true then goA V L r n (k + 1) else false
theorem goA_iff (V : Nat → Nat → Int32) (L r : Nat) : ∀ n k, goA V L r n k = true ↔ ∀ i, k ≤ i → i < k + n → goP V L i r
  | 0, k => ⟨fun _ i h1 h2 => by omega, fun _ => rfl⟩
  | n + 1, k => by
    rw [goA]
    by_cases h : goB V L k r = true
    · rw [if_pos h, goA_iff V L r n (k + 1)]
      constructor
      · intro z i h1 h2
        by_cases e : i = k
        · rw [e]; exact (goB_iff V L k r).mp h
        · exact z i (by omega) (by omega)
      · intro z i h1 h2; exact z i (by omega) (by omega)
    · rw [if_neg h]
      constructor
      · intro z; exact absurd z (by decide)
      · intro z; exact absurd ((goB_iff V L k r).mpr (z k (Nat.le_refl k) (by omega))) h
theorem p_goes55 (K : Int32 → Int32 → Int32 → Int32 → x_m → Option (Int32 × x_m)) {m : x_m} {d r k L : Nat} (hd : d < 8) (hr : r < 1000) (hk : k < 1000) (hL : L ≤ 4) (hl : m.2.1 389 d = xI L) : ∀ (n l f : Nat) (sm : Bool), l + n = L → n < f →
    B_MD_goes_55 K f (xI d) (xI r) (xI (4000 * d + 4 * r)) (xI k) (xI (4000 * d + 4 * k)) (bI sm) (xI l) m = if okS (Vr m d) k r n l sm = true then K (xI d) (xI r) (xI (4000 * d + 4 * r)) (xI (k + 1)) m else some (0, m) := by
  intro n
  induction n with
  | zero =>
    intro l f sm h1 h2
    cases f with
    | zero => omega
    | succ f =>
      rw [B_MD_goes_55, xI_ix (by omega), if_pos (show decide (d < 8) = true by simp; omega), xI_cl (by omega), hl, if_pos (by rw [xI_le (by omega) (by omega)]; omega), xI_add1]
      rfl
  | succ n ih =>
    intro l f sm h1 h2
    cases f with
    | zero => omega
    | succ f =>
      rw [B_MD_goes_55, xI_ix (by omega), if_pos (show decide (d < 8) = true by simp; omega), xI_cl (by omega), hl, if_neg (by rw [xI_le (by omega) (by omega)]; omega), xI_add, xI_add, xI_ix (by omega), xI_ix (by omega)]
      rw [if_pos (show decide (4000 * d + 4 * k + l < 32000) = true by simp; omega), if_pos (show decide (4000 * d + 4 * r + l < 32000) = true by simp; omega), xI_cl (by omega), xI_cl (by omega)]
      unfold B_MD_goes_95 B_MD_goes_122 B_MD_goes_127
      rw [xI_add, xI_add, xI_ix (by omega), xI_ix (by omega), if_pos (show decide (4000 * d + 4 * k + l < 32000) = true by simp; omega), if_pos (show decide (4000 * d + 4 * r + l < 32000) = true by simp; omega), xI_cl (by omega), xI_cl (by omega), xI_add1]
      have i1 := ih (l + 1) f true (by omega) (by omega)
      have i0 := ih (l + 1) f false (by omega) (by omega)
      rw [show bI true = 1 from rfl] at i1
      rw [show bI false = 0 from rfl] at i0
      rw [i1, i0, okS]
      show _ = if (if sm = true ∧ ¬ m.2.1 391 (4000 * d + 4 * k + l) = m.2.1 391 (4000 * d + 4 * r + l) then false else okS (Vr m d) k r n (l + 1) (sm || decide (m.2.1 391 (4000 * d + 4 * k + l) = m.2.1 391 (4000 * d + 4 * r + l)))) = true then _ else _
      cases sm
      · simp only [bI_0, if_true, show ((false : Bool) = true) = False from by simp, false_and, if_false, Bool.false_or]
        by_cases h : m.2.1 391 (4000 * d + 4 * k + l) = m.2.1 391 (4000 * d + 4 * r + l)
        · rw [if_pos h, decide_eq_true h]
        · rw [if_neg h, decide_eq_false h]
      · simp only [bI_0, show ((true : Bool) = false) = False from by simp, if_false, true_and, Bool.true_or]
        by_cases h : m.2.1 391 (4000 * d + 4 * k + l) = m.2.1 391 (4000 * d + 4 * r + l)
        · rw [if_pos h, if_neg (show ¬ ¬ m.2.1 391 (4000 * d + 4 * k + l) = m.2.1 391 (4000 * d + 4 * r + l) from fun z => z h)]
        · rw [if_neg h, if_pos h]; rfl
theorem p_goes13 {m : x_m} {d r L : Nat} (hd : d < 8) (hr : r < 1000) (hL : L ≤ 4) (hl : m.2.1 389 d = xI L) : ∀ (n k f : Nat), k + n = r → n < f →
    B_MD_goes_13 f (xI d) (xI r) (xI (4000 * d + 4 * r)) (xI k) m = some (bI (goA (Vr m d) L r n k), m) := by
  intro n
  induction n with
  | zero =>
    intro k f h1 h2
    cases f with
    | zero => omega
    | succ f =>
      rw [B_MD_goes_13, if_pos (by rw [xI_le (by omega) (by omega)]; omega)]
      rfl
  | succ n ih =>
    intro k f h1 h2
    cases f with
    | zero => omega
    | succ f =>
      rw [B_MD_goes_13, if_neg (by rw [xI_le (by omega) (by omega)]; omega), show (4000 : Int32) * xI d = xI (4000 * d) from xI_mul 4000 d, show (4 : Int32) * xI k = xI (4 * k) from xI_mul 4 k, xI_add, xI_ix (by omega), xI_ix (by omega), if_pos (show decide (4000 * d + 4 * k < 32000) = true by simp; omega), if_pos (show decide (4000 * d + 4 * r < 32000) = true by simp; omega), xI_cl (by omega), xI_cl (by omega)]
      have p5 := p_goes55 (B_MD_goes_13 f) (m := m) hd hr (show k < 1000 by omega) hL hl L 0 x_fu false (by omega) (by unfold x_fu; omega)
      rw [show bI false = 0 from rfl, show xI 0 = 0 from rfl] at p5
      rw [p5, ih (k + 1) f (by omega) (by omega), goA]
      unfold goB
      show _ = some (bI (if (decide (m.2.1 391 (4000 * d + 4 * k) ≠ m.2.1 391 (4000 * d + 4 * r)) && _) = true then _ else _), m)
      by_cases h : m.2.1 391 (4000 * d + 4 * k) = m.2.1 391 (4000 * d + 4 * r)
      · rw [if_pos h, decide_eq_false (fun z => z h), Bool.false_and]; rfl
      · rw [if_neg h, decide_eq_true h, Bool.true_and]
        by_cases ho : okS (Vr m d) k r L 0 false = true
        · rw [if_pos ho, if_pos ho]
        · rw [if_neg ho, if_neg ho]; rfl
theorem F_MD_goes_eq {m : x_m} {d r L : Nat} (hd : d < 8) (hr : r < 1000) (hL : L ≤ 4) (hl : m.2.1 389 d = xI L) : F_MD_goes (xI d) (xI r) m = some (bI (goA (Vr m d) L r r 0), m) := by
  unfold F_MD_goes
  rw [show (4000 : Int32) * xI d = xI (4000 * d) from xI_mul 4000 d, show (4 : Int32) * xI r = xI (4 * r) from xI_mul 4 r, xI_add]
  exact p_goes13 hd hr hL hl r 0 x_fu (by omega) (by unfold x_fu; omega)
/-! the class -/
def fws (V : Nat → Nat → Int32) (l r : Nat) : Nat → Nat → Nat
  | 0, _ => r
  | n + 1, i => if V l i = V l r then i else fws V l r n (i + 1)
theorem fws_spec (V : Nat → Nat → Int32) (l r : Nat) : ∀ n i, i + n = r → (fws V l r n i = r ∧ ∀ j, i ≤ j → j < r → V l j ≠ V l r) ∨ (i ≤ fws V l r n i ∧ fws V l r n i < r ∧ V l (fws V l r n i) = V l r)
  | 0, i, h => Or.inl ⟨rfl, fun j h1 h2 => by omega⟩
  | n + 1, i, h => by
    rw [fws]
    by_cases e : V l i = V l r
    · rw [if_pos e]; exact Or.inr ⟨Nat.le_refl i, by omega, e⟩
    · rw [if_neg e]
      rcases fws_spec V l r n (i + 1) (by omega) with ⟨z1, z2⟩ | ⟨z1, z2, z3⟩
      · refine Or.inl ⟨z1, fun j h1 h2 => ?_⟩
        by_cases ej : j = i
        · rw [ej]; exact e
        · exact z2 j (by omega) h2
      · exact Or.inr ⟨by omega, z2, z3⟩
theorem p_fws {m : x_m} {p l r : Nat} (hl : l < 4) (hr : r < 1000) : ∀ (n i f : Nat), i + n = r → n < f → B_DM_firstWithSame_2 p f (xI l) (xI r) (xI i) m = some (xI (fws (Vc m p) l r n i), m) := by
  intro n
  induction n with
  | zero =>
    intro i f h1 h2
    cases f with
    | zero => omega
    | succ f =>
      rw [B_DM_firstWithSame_2, if_pos (by rw [xI_le (by omega) (by omega)]; omega)]
      rfl
  | succ n ih =>
    intro i f h1 h2
    cases f with
    | zero => omega
    | succ f =>
      rw [B_DM_firstWithSame_2, if_neg (by rw [xI_le (by omega) (by omega)]; omega), xI_ix (by omega), xI_ix (by omega), xI_ix (by omega)]
      simp only [show (decide (l < 4) = true) = True from by simp; omega, show (decide (i < 1000) = true) = True from by simp; omega, show (decide (r < 1000) = true) = True from by simp; omega, if_true]
      rw [xI_cl (by omega), xI_cl (by omega), xI_cl (by omega), xI_add1, ih (i + 1) f (by omega) (by omega), fws]
      show (if m.2.1 (p + 2 + l) i = m.2.1 (p + 2 + l) r then _ else _) = some (xI (if m.2.1 (p + 2 + l) i = m.2.1 (p + 2 + l) r then _ else _), m)
      split <;> rfl
def agr (V : Nat → Nat → Int32) (a b : Nat) : Nat → Nat → Bool
  | 0, _ => true
  | n + 1, l => if V l a = V l b then agr V a b n (l + 1) else false
theorem agr_iff (V : Nat → Nat → Int32) (a b : Nat) : ∀ n l, agr V a b n l = true ↔ ∀ l', l ≤ l' → l' < l + n → V l' a = V l' b
  | 0, l => ⟨fun _ i h1 h2 => by omega, fun _ => rfl⟩
  | n + 1, l => by
    rw [agr]
    by_cases h : V l a = V l b
    · rw [if_pos h, agr_iff V a b n (l + 1)]
      constructor
      · intro z i h1 h2
        by_cases e : i = l
        · rw [e]; exact h
        · exact z i (by omega) (by omega)
      · intro z i h1 h2; exact z i (by omega) (by omega)
    · rw [if_neg h]
      constructor
      · intro z; exact absurd z (by decide)
      · intro z; exact absurd (z l (Nat.le_refl l) (by omega)) h
theorem p_agr {m : x_m} {p a b L : Nat} (ha : a < 1000) (hb : b < 1000) (hL : L ≤ 4) (h0 : m.1 p 0 = xI L) : ∀ (n l f : Nat), l + n = L ∨ (n = 0 ∧ L ≤ l ∧ l ≤ 5) → n < f → B_DM_agreeAbove_5 p f (xI a) (xI b) (xI l) m = some (bI (agr (Vc m p) a b n l), m) := by
  intro n
  induction n with
  | zero =>
    intro l f h1 h2
    cases f with
    | zero => omega
    | succ f =>
      rw [B_DM_agreeAbove_5, h0, if_pos (by rw [xI_le (by omega) (by omega)]; omega)]
      rfl
  | succ n ih =>
    intro l f h1 h2
    cases f with
    | zero => omega
    | succ f =>
      rw [B_DM_agreeAbove_5, h0, if_neg (by rw [xI_le (by omega) (by omega)]; omega), xI_ix (by omega), xI_ix (by omega), xI_ix (by omega)]
      simp only [show (decide (l < 4) = true) = True from by simp; omega, show (decide (a < 1000) = true) = True from by simp; omega, show (decide (b < 1000) = true) = True from by simp; omega, if_true]
      rw [xI_cl (by omega), xI_cl (by omega), xI_cl (by omega), xI_add1, ih (l + 1) f (by omega) (by omega), agr]
      show (if m.2.1 (p + 2 + l) a = m.2.1 (p + 2 + l) b then _ else _) = some (bI (if m.2.1 (p + 2 + l) a = m.2.1 (p + 2 + l) b then _ else _), m)
      split <;> rfl
def fit (V : Nat → Nat → Int32) (L r : Nat) : Nat → Nat → Bool
  | 0, _ => true
  | n + 1, l => if r ≤ fws V l r r 0 then fit V L r n (l + 1) else (decide (0 < l) && agr V (fws V l r r 0) r (L - (l + 1)) (l + 1))
theorem p_fits {m : x_m} {p r L : Nat} (hr : r < 1000) (hL : L ≤ 4) (h0 : m.1 p 0 = xI L) : ∀ (n l f : Nat), l + n = L → n < f → B_DM_fits_2 p f (xI r) (xI l) m = some (bI (fit (Vc m p) L r n l), m) := by
  intro n
  induction n with
  | zero =>
    intro l f h1 h2
    cases f with
    | zero => omega
    | succ f =>
      rw [B_DM_fits_2, h0, if_pos (by rw [xI_le (by omega) (by omega)]; omega)]
      rfl
  | succ n ih =>
    intro l f h1 h2
    cases f with
    | zero => omega
    | succ f =>
      have hf : fws (Vc m p) l r r 0 ≤ r := by
        rcases fws_spec (Vc m p) l r r 0 (by omega) with ⟨z, _⟩ | ⟨_, z, _⟩ <;> omega
      rw [B_DM_fits_2, h0, if_neg (by rw [xI_le (by omega) (by omega)]; omega)]
      unfold F_DM_firstWithSame
      rw [show (0 : Int32) = xI 0 from rfl, p_fws (by omega) hr r 0 x_fu (by omega) (by unfold x_fu; omega), Option.bind_some]
      simp only [xI_le (a := r) (b := fws (Vc m p) l r r 0) (by omega) (by omega), xI_le (a := l) (b := 0) (by omega) (by omega)]
      rw [xI_add1, ih (l + 1) f (by omega) (by omega), fit]
      by_cases h : r ≤ fws (Vc m p) l r r 0
      · rw [if_pos h, if_pos h]
      · rw [if_neg h, if_neg h]
        unfold F_DM_agreeAbove
        rw [xI_add1, p_agr (by omega) hr hL h0 (L - (l + 1)) (l + 1) x_fu (by omega) (by unfold x_fu; omega), Option.bind_some]
        simp only []
        rw [show xI 0 = 0 from rfl]
        simp only [bI_0]
        unfold B_DM_fits_40 B_DM_fits_41
        by_cases hl0 : l ≤ 0
        · rw [if_pos hl0, decide_eq_false (by omega), Bool.false_and]; rfl
        · rw [if_neg hl0, decide_eq_true (by omega), Bool.true_and]
          cases agr (Vc m p) (fws (Vc m p) l r r 0) r (L - (l + 1)) (l + 1) <;> rfl
theorem F_DM_fits_eq {m : x_m} {p r L : Nat} (hr : r < 1000) (hL : L ≤ 4) (h0 : m.1 p 0 = xI L) : F_DM_fits p (xI r) m = some (bI (fit (Vc m p) L r L 0), m) :=
  p_fits hr hL h0 L 0 x_fu (by omega) (by unfold x_fu; omega)
/-- rows that go with one another -/
def gRows (V : Nat → Nat → Int32) (L r : Nat) : Prop := ∀ i j, i < r → j < r → i ≠ j → V 0 i ≠ V 0 j ∧ ∀ l1 l2, l1 < l2 → l2 < L → V l1 i = V l1 j → V l2 i = V l2 j
theorem fit_iff (V : Nat → Nat → Int32) (L r : Nat) (hg : gRows V L r) : ∀ n l, l + n = L → (∀ l' j, l' < l → j < r → V l' j ≠ V l' r) → (0 < l ∨ 0 < n) → (fit V L r n l = true ↔ ∀ j, j < r → goP V L j r) := by
  intro n
  induction n with
  | zero =>
    intro l h1 h2 h3
    constructor
    · intro _ j hj
      refine ⟨h2 0 j (by omega) hj, fun l1 l2 a b c => absurd c (h2 l1 j (by omega) hj)⟩
    · intro _; rfl
  | succ n ih =>
    intro l h1 h2 h3
    rw [fit]
    rcases fws_spec V l r r 0 (by omega) with ⟨z1, z2⟩ | ⟨z1, z2, z3⟩
    · rw [if_pos (by omega)]
      refine ih (l + 1) (by omega) (fun l' j a b => ?_) (by omega)
      by_cases e : l' = l
      · rw [e]; exact z2 j (by omega) b
      · exact h2 l' j (by omega) b
    · rw [if_neg (by omega), Bool.and_eq_true, decide_eq_true_eq, agr_iff]
      generalize fws V l r r 0 = t at *
      constructor
      · intro ⟨h0, ha⟩ j hj
        have hat : ∀ l', l ≤ l' → l' < L → V l' t = V l' r := by
          intro l' a b
          by_cases e : l' = l
          · rw [e]; exact z3
          · exact ha l' (by omega) (by omega)
        refine ⟨h2 0 j h0 hj, fun l1 l2 a b c => ?_⟩
        have hl1 : l ≤ l1 := Nat.le_of_not_lt (fun z => h2 l1 j z hj c)
        by_cases e : j = t
        · rw [e]; exact hat l2 (by omega) b
        · have e1 : V l1 j = V l1 t := by rw [c, hat l1 hl1 (by omega)]
          rw [(hg j t hj z2 e).2 l1 l2 a b e1]
          exact hat l2 (by omega) b
      · intro hall
        have gt := hall t z2
        refine ⟨?_, fun l' a b => gt.2 l l' (by omega) (by omega) z3⟩
        by_cases e : l = 0
        · subst e; exact absurd z3 gt.1
        · omega
theorem fit_goA (V W : Nat → Nat → Int32) (L r : Nat) (hL : 1 ≤ L) (hg : gRows V L r) (hV : ∀ l i, l < L → i ≤ r → V l i = W l i) : fit V L r L 0 = goA W L r r 0 := by
  have h1 := fit_iff V L r hg L 0 (by omega) (fun l' j a => by omega) (by omega)
  have h2 := goA_iff W L r r 0
  have h3 : (∀ j, j < r → goP V L j r) ↔ (∀ i, 0 ≤ i → i < 0 + r → goP W L i r) := by
    constructor
    · intro z i _ h
      obtain ⟨a, b⟩ := z i (by omega)
      refine ⟨?_, fun l1 l2 x y w => ?_⟩
      · rw [← hV 0 i (by omega) (by omega), ← hV 0 r (by omega) (by omega)]; exact a
      · rw [← hV l2 i (by omega) (by omega), ← hV l2 r (by omega) (by omega)]
        exact b l1 l2 x y (by rw [hV l1 i (by omega) (by omega), hV l1 r (by omega) (by omega)]; exact w)
    · intro z i h
      obtain ⟨a, b⟩ := z i (by omega) (by omega)
      refine ⟨?_, fun l1 l2 x y w => ?_⟩
      · rw [hV 0 i (by omega) (by omega), hV 0 r (by omega) (by omega)]; exact a
      · rw [hV l2 i (by omega) (by omega), hV l2 r (by omega) (by omega)]
        exact b l1 l2 x y (by rw [← hV l1 i (by omega) (by omega), ← hV l1 r (by omega) (by omega)]; exact w)
  exact Bool.eq_iff_iff.mpr (h1.trans (h3.trans h2.symm))
theorem gRows_succ {V : Nat → Nat → Int32} {L r : Nat} (hg : gRows V L r) (h : ∀ j, j < r → goP V L j r) : gRows V L (r + 1) := by
  intro i j hi hj hij
  by_cases e1 : i = r
  · subst e1
    have := h j (by omega)
    exact ⟨fun z => this.1 z.symm, fun l1 l2 a b c => (this.2 l1 l2 a b c.symm).symm⟩
  · by_cases e2 : j = r
    · subst e2; exact h i (by omega)
    · exact hg i j (by omega) (by omega) hij
