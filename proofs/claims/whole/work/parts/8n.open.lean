/-! open in step -/
theorem OpD_j {M R M' R' : x_m} {d : Nat} (h : OpD M R d) (f : ∀ b, M'.1 (9 + 13 * d) b = M.1 (9 + 13 * d) b) (f2 : ∀ a, 9 + 13 * d ≤ a → a < 22 + 13 * d → M'.2.1 a = M.2.1 a) (g1 : R'.2.1 389 d = R.2.1 389 d) (g2 : R'.2.1 390 d = R.2.1 390 d) (g3 : ∀ j, 4000 * d ≤ j → j < 4000 * d + 4000 → R'.2.1 391 j = R.2.1 391 j) (g4 : R'.2.1 392 d = R.2.1 392 d) : OpD M' R' d := by
  obtain ⟨L, c, ρ, K, pk, ⟨a1, a2, a3, a4, a5, a6, a7, a8⟩, b1, b2, b3, b4, b5, b6, b7⟩ := h
  refine ⟨L, c, ρ, K, pk, ⟨a1, a2, a3, a4, (f 0).trans a5, g1.trans a6, (f 1).trans a7, g2.trans a8⟩, by rw [f2 _ (by omega) (by omega)]; exact b1, fun l i hl hi => ?_, fun i j x y => ?_, fun l hl => ?_, b5, (f 2).trans b6, g4.trans b7⟩
  · rw [f2 _ (by omega) (by omega), g3 _ (by omega) (by omega)]; exact b2 l i hl hi
  · rw [g3 _ (by omega) (by omega), g3 _ (by omega) (by omega)]; exact b3 i j x y
  · obtain ⟨s1, s2, s3, s4⟩ := b4 l hl
    refine ⟨s1, by rw [f2 (21 + 13 * d) (by omega) (by omega)]; exact s2, by rw [f2 (17 + 13 * d + l) (by omega) (by omega)]; exact s3, fun v => ?_⟩
    rw [f2 (17 + 13 * d + l) (by omega) (by omega), s4 v]
    refine ⟨fun ⟨i, x, y⟩ => ⟨i, x, ?_⟩, fun ⟨i, x, y⟩ => ⟨i, x, ?_⟩⟩
    · rw [g3 _ (by omega) (by omega)]; exact y
    · rw [g3 _ (by omega) (by omega)] at y; exact y
/-- one dimension put in order by both -/
theorem ord_dim {M R : x_m} {d : Nat} (hd : d < 8) (h : DimR M R d) (hz : ∀ l, l < 4 → M.2.1 (21 + 13 * d) l = 0) (hp : M.1 (9 + 13 * d) 1 ≠ 0) :
    ∃ M' A', F_DM_arrange (9 + 13 * d) M = some M' ∧ F_MD_order (xI d) R = some (w391 R A') ∧ OpD M' (x_wA (w391 R A') 392 d 0) d ∧ (∀ a b, ¬ (a = 9 + 13 * d ∧ b = 2) → M'.1 a b = M.1 a b) ∧ M'.2.2 = M.2.2 ∧ (∀ a, ¬ (15 + 13 * d ≤ a ∧ a ≤ 21 + 13 * d) → M'.2.1 a = M.2.1 a) ∧ (∀ j, j < 4000 * d ∨ 4000 * d + 4000 ≤ j → A' j = R.2.1 391 j) := by
  obtain ⟨L, c, a1, a2, a3, a4, a5, a6, a7, a8, a9⟩ := h
  have c1 : 1 ≤ c := by
    rcases Nat.eq_zero_or_pos c with z | z
    · rw [z] at a6; exact absurd a6 hp
    · exact z
  have dis : ∀ i j, i < c → j < c → i ≠ j → M.2.1 (9 + 13 * d + 2) i ≠ M.2.1 (9 + 13 * d + 2) j := fun i j x y z => (a8 i j x y z).1
  obtain ⟨M', K, e1, e2, e3, e4, e5, e6, e7⟩ := F_DM_arrange_eq (p := 9 + 13 * d) a1 a2 a3 a4 a6 (by rw [show 9 + 13 * d + 12 = 21 + 13 * d by omega]; exact hz) dis
  obtain ⟨A', σ, g1, ⟨g2, g3, g4, g5, g6⟩, g7⟩ := F_MD_order_eq hd a3 a7
  have V : ∀ l i, l < L → i < c → A' (4000 * d + 4 * i + l) = M.2.1 (11 + 13 * d + l) (σ i) := fun l i x y => by rw [g5 i l y (by omega)]; exact (a9 l (σ i) x (g2 i y)).symm
  have V0 : ∀ i, i < c → A' (4000 * d + 4 * i) = M.2.1 (11 + 13 * d) (σ i) := fun i y => V 0 i (by omega) y
  have st : ∀ i j, i < j → j < c → A' (4000 * d + 4 * i) < A' (4000 * d + 4 * j) := by
    intro i j x y
    rcases Int32.lt_or_eq_of_le (g7 i j x y) with z | z
    · exact z
    · rw [V0 i (by omega), V0 j y] at z
      have := dis (σ i) (σ j) (g2 i (by omega)) (g2 j y) (fun w => by have := g3 i j (by omega) y w; omega)
      rw [show 9 + 13 * d + 2 = 11 + 13 * d by omega] at this
      exact absurd z this
  have S0 := e2 0 (by omega)
  have set0 : ∀ l, l < L → ∀ v, (∃ j, j < c ∧ M.2.1 (9 + 13 * d + 2 + l) j = v) ↔ ∃ i, i < c ∧ A' (4000 * d + 4 * i + l) = v := by
    intro l hl v
    rw [show 9 + 13 * d + 2 + l = 11 + 13 * d + l by omega]
    refine ⟨fun ⟨j, x, y⟩ => ?_, fun ⟨i, x, y⟩ => ⟨σ i, g2 i x, by rw [← V l i hl x]; exact y⟩⟩
    obtain ⟨i, i1, i2⟩ := g4 j x
    exact ⟨i, i1, by rw [V l i hl i1, i2]; exact y⟩
  have rise := rise_eq (f := M'.2.1 (9 + 13 * d + 8 + 0)) (g := fun i => A' (4000 * d + 4 * i)) (k := K 0) (c := c) S0.2.2.1 st (fun v => (S0.2.2.2 v).trans (set0 0 (by omega) v))
  refine ⟨M', A', e1, g1, ⟨L, c, σ, K, 0, ⟨a1, a2, c1, a3, (e5 _ _ (by omega)).trans a4, ?_, (e5 _ _ (by omega)).trans a6, ?_⟩, fun i hi => ⟨by have := g2 i hi; omega, ?_⟩, fun l i hl hi => ?_, fun i j x y => ?_, fun l hl => ?_, by omega, ?_, ?_⟩, e5, e6, fun a x => e7 a (by unfold qA; omega), g6⟩
  · show (if 389 = 392 ∧ d = d then (0 : Int32) else (w391 R A').2.1 389 d) = _
    rw [if_neg (by omega), w391_o _ _ (by omega)]; exact a5
  · show (if 390 = 392 ∧ d = d then (0 : Int32) else (w391 R A').2.1 390 d) = _
    rw [if_neg (by omega), w391_o _ _ (by omega)]; exact a7
  · obtain ⟨t, t1, t2, t3⟩ := e3 (σ i) (g2 i hi)
    obtain ⟨r1, r2⟩ := (rise i).2 hi
    have r2' : M'.2.1 (9 + 13 * d + 8) i = A' (4000 * d + 4 * i) := r2
    have e : M'.2.1 (9 + 13 * d + 8) t = M'.2.1 (9 + 13 * d + 8) i := by
      rw [t2, r2', V0 i hi, show 9 + 13 * d + 2 = 11 + 13 * d by omega]
    have ti : t = i := by
      rcases Nat.lt_trichotomy t i with z | z | z
      · have := S0.2.2.1 t i z r1
        rw [show 9 + 13 * d + 8 + 0 = 9 + 13 * d + 8 from rfl, e] at this
        exact absurd this (Int32.lt_irrefl)
      · exact z
      · have := S0.2.2.1 i t z t1
        rw [show 9 + 13 * d + 8 + 0 = 9 + 13 * d + 8 from rfl, e] at this
        exact absurd this (Int32.lt_irrefl)
    rw [show 15 + 13 * d = 9 + 13 * d + 6 by omega, ← ti, t3, ti]
  · show M'.2.1 (11 + 13 * d + l) (σ i) = A' (4000 * d + 4 * i + l)
    rw [e7 _ (by unfold qA; omega), V l i hl hi]
  · exact st i j x y
  · obtain ⟨s1, s2, s3, s4⟩ := e2 l hl
    rw [show 9 + 13 * d + 12 = 21 + 13 * d by omega] at s2
    rw [show 9 + 13 * d + 8 + l = 17 + 13 * d + l by omega] at s3 s4
    exact ⟨s1, s2, s3, fun v => (s4 v).trans (set0 l hl v)⟩
  · exact e4
  · show (if 392 = 392 ∧ d = d then (0 : Int32) else _) = _
    rw [if_pos ⟨rfl, rfl⟩]; rfl
theorem ls_ord {D : Nat} (hD : D ≤ 8) : ∀ (w i f g : Nat) (M R : x_m), i + w = D → w < f → w < g → M.1 4 2 = xI D → R.1 387 13 = xI D → R.1 387 2 = 0 → (∀ d, d < i → OpD M R d) → (∀ d, i ≤ d → d < D → DimR M R d ∧ (∀ l, l < 4 → M.2.1 (21 + 13 * d) l = 0) ∧ M.1 (9 + 13 * d) 1 ≠ 0) →
    ∃ M' R', B_CT_becomeOpen_55 f (xI i) M = some (1, x_wS M' 4 4 1) ∧ B_MD_open_69 g 1 (xI i) R = some (1, x_wS R' 387 2 1) ∧ (∀ d, d < D → OpD M' R' d) ∧ (∀ a b, ¬ (9 ≤ a ∧ a < 113) → M'.1 a b = M.1 a b) ∧ (∀ d, M'.1 (9 + 13 * d) 0 = M.1 (9 + 13 * d) 0) ∧ M'.2.2 = M.2.2 ∧ (∀ a, ¬ (9 ≤ a ∧ a < 113) → M'.2.1 a = M.2.1 a) ∧ R'.1 = R.1 ∧ R'.2.2 = R.2.2 ∧ (∀ a, a ≠ 391 → a ≠ 392 → R'.2.1 a = R.2.1 a) := by
  intro w
  induction w with
  | zero =>
    intro i f g M R hi hf hg h1 h2 h3 h4 h5
    cases f with
    | zero => omega
    | succ f =>
    cases g with
    | zero => omega
    | succ g =>
      rw [B_CT_becomeOpen_55, h1, if_pos (by rw [xI_le (by omega) (by omega)]; omega), B_MD_open_69, h2, if_pos (by rw [xI_le (by omega) (by omega)]; omega)]
      unfold B_MD_open_99 B_MD_open_111 B_MD_open_116
      rw [h3, if_pos rfl, if_neg (by decide), if_pos (by decide), if_pos (by decide)]
      exact ⟨M, R, rfl, rfl, fun d x => h4 d (by omega), fun _ _ _ => rfl, fun _ => rfl, rfl, fun _ _ => rfl, rfl, rfl, fun _ _ _ => rfl⟩
  | succ w ih =>
    intro i f g M R hi hf hg h1 h2 h3 h4 h5
    cases f with
    | zero => omega
    | succ f =>
    cases g with
    | zero => omega
    | succ g =>
      rw [B_CT_becomeOpen_55, h1, if_neg (by rw [xI_le (by omega) (by omega)]; omega), xI_ix (by omega), if_pos (show decide (i < 8) = true by simp; omega), xI_cl (by omega), B_MD_open_69, h2, if_neg (by rw [xI_le (by omega) (by omega)]; omega), if_neg (by decide)]
      obtain ⟨b1, b2, b3⟩ := h5 i (Nat.le_refl _) (by omega)
      obtain ⟨M1, A', e1, e2, e3, e4, e5, e6, e7⟩ := ord_dim (show i < 8 by omega) b1 b2 b3
      rw [e1, e2, Option.bind_some, Option.bind_some, xI_ix (by omega), if_pos (show decide (i < 8) = true by simp; omega), xI_cl (by omega), xI_add1]
      have r2 : ∀ a j, (x_wA (w391 R A') 392 i 0).2.1 a j = if a = 392 ∧ j = i then 0 else if a = 391 then A' j else R.2.1 a j := by
        intro a j
        show (if a = 392 ∧ j = i then _ else (if a = 391 then A' else R.2.1 a) j) = _
        by_cases z : a = 391
        · rw [if_neg (by omega), if_pos z, if_neg (by omega), if_pos z]
        · rw [if_neg z, if_neg z]
      have r1 : (x_wA (w391 R A') 392 i 0).1 = R.1 := rfl
      have r3 : (x_wA (w391 R A') 392 i 0).2.2 = R.2.2 := rfl
      generalize x_wA (w391 R A') 392 i 0 = R1 at *
      have v391 : ∀ d, d ≠ i → ∀ j, 4000 * d ≤ j → j < 4000 * d + 4000 → R1.2.1 391 j = R.2.1 391 j := fun d hd j x y => by rw [r2, if_neg (by omega), if_pos rfl]; exact e7 j (by omega)
      have vo : ∀ a d, a ≠ 391 → d ≠ i → R1.2.1 a d = R.2.1 a d := fun a d x y => by rw [r2, if_neg (by omega), if_neg x]
      have vo2 : ∀ a, a ≠ 391 → a ≠ 392 → R1.2.1 a = R.2.1 a := fun a x y => by
        funext d
        rw [r2, if_neg (by omega), if_neg x]
      obtain ⟨M2, R2, k1, k2, k3, k4, k4', k5, k6, k7, k8, k9⟩ := ih (i + 1) f g M1 R1 (by omega) (by omega) (by omega) ((e4 _ _ (by omega)).trans h1) (by rw [r1]; exact h2) (by rw [r1]; exact h3) (fun d x => by
        by_cases ed : d = i
        · rw [ed]; exact e3
        · exact OpD_j (h4 d (by omega)) (fun b => e4 _ _ (by omega)) (fun a x y => e6 a (by omega)) (vo _ _ (by omega) ed) (vo _ _ (by omega) ed) (v391 d ed) (vo _ _ (by omega) ed)) (fun d x y => by
        obtain ⟨d1, d2, d3⟩ := h5 d (by omega) y
        refine ⟨DimR_k d1 (fun b => e4 _ _ (by omega)) (fun l i' hl => congrFun (e6 _ (by omega)) i') (vo _ _ (by omega) (by omega)) (vo _ _ (by omega) (by omega)) (v391 d (by omega)), fun l hl => ?_, ?_⟩
        · rw [e6 _ (by omega)]; exact d2 l hl
        · rw [e4 _ _ (by omega)]; exact d3)
      refine ⟨M2, R2, k1, k2, k3, fun a b x => (k4 a b x).trans (e4 a b (by omega)), fun d => (k4' d).trans (e4 _ _ (by omega)), k5.trans e5, fun a x => (k6 a x).trans (e6 a (by omega)), k7.trans r1, k8.trans r3, fun a x y => (k9 a x y).trans (vo2 a x y)⟩
theorem p_25 {m : x_m} {D : Nat} (hD : D ≤ 8) (h : m.1 4 2 = xI D) : ∀ (w i f : Nat), i + w = D → w < f → ((∀ d, i ≤ d → d < D → m.1 (9 + 13 * d) 1 ≠ 0) → B_CT_becomeOpen_25 f (xI i) m = B_CT_becomeOpen_55 x_fu 0 m) ∧ ((∃ d, i ≤ d ∧ d < D ∧ m.1 (9 + 13 * d) 1 = 0) → B_CT_becomeOpen_25 f (xI i) m = some (0, m)) := by
  intro w
  induction w with
  | zero =>
    intro i f hi hf
    cases f with
    | zero => omega
    | succ f =>
      refine ⟨fun _ => ?_, fun ⟨d, x, y, _⟩ => by omega⟩
      rw [B_CT_becomeOpen_25, h, if_pos (by rw [xI_le (by omega) (by omega)]; omega)]
  | succ w ih =>
    intro i f hi hf
    cases f with
    | zero => omega
    | succ f =>
      obtain ⟨i1, i2⟩ := ih (i + 1) f (by omega) (by omega)
      rw [B_CT_becomeOpen_25, h, if_neg (by rw [xI_le (by omega) (by omega)]; omega), xI_ix (by omega), if_pos (show decide (i < 8) = true by simp; omega), xI_cl (by omega), xI_add1]
      refine ⟨fun z => ?_, fun ⟨d, x, y, z⟩ => ?_⟩
      · rw [if_neg (z i (Nat.le_refl _) (by omega))]
        exact i1 (fun d x y => z d (by omega) y)
      · by_cases c : m.1 (9 + 13 * i) 1 = 0
        · rw [if_pos c]
        · rw [if_neg c]
          refine i2 ⟨d, ?_, y, z⟩
          rcases Nat.lt_or_ge i d with q | q
          · omega
          · have : d = i := by omega
            subst this
            exact absurd z c
theorem p_34z {m : x_m} {D : Nat} (hD : D ≤ 8) (h : m.1 387 13 = xI D) : ∀ (w i f : Nat), i + w = D → w < f → B_MD_open_34 f 0 (xI i) m = B_MD_open_69 x_fu 0 0 m := by
  intro w
  induction w with
  | zero =>
    intro i f hi hf
    cases f with
    | zero => omega
    | succ f =>
      rw [B_MD_open_34, h, if_pos (by rw [xI_le (by omega) (by omega)]; omega)]
  | succ w ih =>
    intro i f hi hf
    cases f with
    | zero => omega
    | succ f =>
      rw [B_MD_open_34, h, if_neg (by rw [xI_le (by omega) (by omega)]; omega), if_pos rfl]
      unfold B_MD_open_59 B_MD_open_60
      rw [xI_add1]
      exact ih (i + 1) f (by omega) (by omega)
theorem p_34 {m : x_m} {D : Nat} (hD : D ≤ 8) (h : m.1 387 13 = xI D) (hc : ∀ d, d < D → ∃ c, c ≤ 1000 ∧ m.2.1 390 d = xI c) : ∀ (w i f : Nat), i + w = D → w < f → ((∀ d, i ≤ d → d < D → m.2.1 390 d ≠ 0) → B_MD_open_34 f 1 (xI i) m = B_MD_open_69 x_fu 1 0 m) ∧ ((∃ d, i ≤ d ∧ d < D ∧ m.2.1 390 d = 0) → B_MD_open_34 f 1 (xI i) m = B_MD_open_69 x_fu 0 0 m) := by
  intro w
  induction w with
  | zero =>
    intro i f hi hf
    cases f with
    | zero => omega
    | succ f =>
      refine ⟨fun _ => ?_, fun ⟨d, x, y, _⟩ => by omega⟩
      rw [B_MD_open_34, h, if_pos (by rw [xI_le (by omega) (by omega)]; omega)]
  | succ w ih =>
    intro i f hi hf
    cases f with
    | zero => omega
    | succ f =>
      obtain ⟨i1, i2⟩ := ih (i + 1) f (by omega) (by omega)
      obtain ⟨c, c1, c2⟩ := hc i (by omega)
      rw [B_MD_open_34, h, if_neg (by rw [xI_le (by omega) (by omega)]; omega), if_neg (by decide), xI_ix (by omega), if_pos (show decide (i < 8) = true by simp; omega), xI_cl (by omega), c2]
      unfold B_MD_open_59 B_MD_open_60
      rw [xI_add1]
      have e : (xI c ≤ 0) = (c = 0) := by
        rw [show (xI c ≤ 0) = (c ≤ 0) from xI_le (b := 0) (by omega) (by omega)]
        exact propext ⟨fun z => by omega, fun z => by omega⟩
      have e' : (xI c = 0) = (c = 0) := xI_eq (b := 0) (by omega) (by omega)
      simp only [e]
      refine ⟨fun z => ?_, fun ⟨d, x, y, z⟩ => ?_⟩
      · have := z i (Nat.le_refl _) (by omega)
        rw [c2, Ne, e'] at this
        rw [if_neg this]
        exact i1 (fun d x y => z d (by omega) y)
      · by_cases c0 : c = 0
        · rw [if_pos c0]
          exact p_34z hD h w (i + 1) f (by omega) (by omega)
        · rw [if_neg c0]
          refine i2 ⟨d, ?_, y, z⟩
          rcases Nat.lt_or_ge i d with q | q
          · omega
          · have : d = i := by omega
            subst this
            rw [c2, e'] at z
            exact absurd z c0
theorem open69_0 {m : x_m} (b : Bool) (h2 : m.1 387 2 = bI b) : B_MD_open_69 x_fu 0 0 m = some (0, x_wS m 387 2 (bI b)) := by
  rw [show x_fu = 199999 + 1 from rfl, B_MD_open_69, if_pos rfl]
  unfold B_MD_open_99 B_MD_open_111 B_MD_open_116
  rw [h2]
  simp only [bI_0]
  cases b <;> (split <;> rfl)
theorem wS_id {m : x_m} {p k : Nat} {v : Int32} (h : m.1 p k = v) : x_wS m p k v = m := by
  refine Prod.ext ?_ rfl
  funext a b
  show (if a = p ∧ b = k then _ else _) = _
  by_cases z : a = p ∧ b = k
  · rw [if_pos z, z.1, z.2]; exact h.symm
  · rw [if_neg z]
theorem SR_1 {M R : x_m} {n : Nat} (h : SR M R n) (v : Int32) : SR M (x_wS R 387 1 v) n := by
  obtain ⟨D, Ms, q, q2, r, r2, hc, a1, a2, a3, a4, a5⟩ := h
  refine ⟨D, Ms, q, q2, r, r2, CO_x hc (fun _ _ _ => rfl) rfl (fun _ _ => rfl) (fun a b x => ?_) rfl (fun _ _ => rfl), a1, a2, a3, a4, a5⟩
  show (if a = 387 ∧ b = 1 then _ else _) = _
  rw [if_neg (by omega)]
theorem SR_open {M R : x_m} {n : Nat} (h : SR M R n) : ∃ v M' R', F_QR_open M = some (v, M') ∧ F_MD_open R = some (v, R') ∧ SR M' R' n ∧ FC M M' ∧ FR R R' := by
  have h' := SR_1 h 0
  have fr1 : FR R (x_wS R 387 1 0) := FR_S _ _ (by omega)
  unfold F_QR_open F_MD_open
  generalize x_wS R 387 1 0 = R1 at *
  have h0 := h'
  obtain ⟨D, Ms, q, q2, r, r2, hc, a1, a2, a3, a4, a5⟩ := h'
  obtain ⟨z1, z2, z3, z4, z5, z6⟩ := hc.zd
  have hq := hc.hq
  have hr := hc.hr
  have no : ∀ b : Bool, R1.1 387 2 = bI b → F_CT_becomeOpen M = some (0, M) → B_MD_open_31 0 R1 = some (0, R1) := by
    intro b hb _
    unfold B_MD_open_31
    rw [show (0 : Int32) = xI 0 from rfl, show B_MD_open_34 x_fu (xI 0) (xI 0) R1 = B_MD_open_69 x_fu 0 0 R1 from p_34z z3 z2 D 0 x_fu (by omega) (by unfold x_fu; omega), open69_0 b hb, wS_id hb]; rfl
  have fin : ∀ b : Bool, R1.1 387 2 = bI b → F_CT_becomeOpen M = some (0, M) → ∀ S, S = B_MD_open_31 0 R1 → ∃ v M' R', ((F_CT_becomeOpen M).bind fun r4 => if x_b1 r4.1 = true then some (r4.1, r4.2) else none) = some (v, M') ∧ S = some (v, R') ∧ SR M' R' n ∧ FC M M' ∧ FR R R' := by
    intro b hb hC S hS
    rw [hS, no b hb hC, hC, Option.bind_some, if_pos (show x_b1 0 = true from rfl)]
    exact ⟨0, M, R1, rfl, rfl, h0, FC_refl _, fr1⟩
  rcases hc.opn with ⟨o1, o2, nc⟩ | ⟨o1, o2, nc⟩
  · rw [o2, if_pos rfl, z2, z5]
    simp only [show (xI D ≤ 0) = (D ≤ 0) from xI_le (b := 0) (by omega) (by omega), show (xI Ms ≤ 0) = (Ms ≤ 0) from xI_le (b := 0) (by omega) (by omega)]
    have hC : F_CT_becomeOpen M = if D = 0 then some (0, M) else if Ms = 0 then some (0, M) else B_CT_becomeOpen_25 x_fu 0 M := by
      unfold F_CT_becomeOpen B_CT_becomeOpen_21
      rw [o1, if_pos rfl, z1, z4]
      simp only [show (xI D = 0) = (D = 0) from xI_eq (b := 0) (by omega) (by omega), show (xI Ms = 0) = (Ms = 0) from xI_eq (b := 0) (by omega) (by omega)]
    unfold B_MD_open_30
    by_cases d0 : D = 0
    · rw [if_pos (show D ≤ 0 by omega)]
      exact fin false o2 (by rw [hC, if_pos d0]) _ rfl
    · rw [if_neg (show ¬ D ≤ 0 by omega)]
      by_cases m0 : Ms = 0
      · rw [if_pos (show Ms ≤ 0 by omega)]
        exact fin false o2 (by rw [hC, if_neg d0, if_pos m0]) _ rfl
      · rw [if_neg (show ¬ Ms ≤ 0 by omega)]
        have cnt : ∀ d, d < D → ∃ c, c ≤ 1000 ∧ M.1 (9 + 13 * d) 1 = xI c ∧ R1.2.1 390 d = xI c := by
          intro d hd
          obtain ⟨L, c, x1, x2, x3, x4, x5, x6, x7, _⟩ := nc.1 d hd
          exact ⟨c, x3, x6, x7⟩
        obtain ⟨p1, p2⟩ := p_25 (m := M) z3 z1 D 0 x_fu (by omega) (by unfold x_fu; omega)
        obtain ⟨s1, s2⟩ := p_34 (m := R1) z3 z2 (fun d hd => by obtain ⟨c, y1, y2, y3⟩ := cnt d hd; exact ⟨c, y1, y3⟩) D 0 x_fu (by omega) (by unfold x_fu; omega)
        rw [show xI 0 = 0 from rfl] at p1 p2 s1 s2
        unfold B_MD_open_31
        by_cases ex : ∃ d, 0 ≤ d ∧ d < D ∧ M.1 (9 + 13 * d) 1 = 0
        · have ex' : ∃ d, 0 ≤ d ∧ d < D ∧ R1.2.1 390 d = 0 := by
            obtain ⟨d, x, y, z⟩ := ex
            obtain ⟨c, y1, y2, y3⟩ := cnt d y
            refine ⟨d, x, y, ?_⟩
            rw [y3, ← y2]; exact z
          have hC2 : F_CT_becomeOpen M = some (0, M) := by rw [hC, if_neg d0, if_neg m0, p2 ex]
          refine fin false o2 hC2 _ ?_
          unfold B_MD_open_31
          rw [s2 ex']
          have := p_34z (m := R1) z3 z2 D 0 x_fu (by omega) (by unfold x_fu; omega)
          rw [show xI 0 = 0 from rfl] at this
          exact this.symm
        · have al : ∀ d, d < D → M.1 (9 + 13 * d) 1 ≠ 0 := fun d y z => ex ⟨d, by omega, y, z⟩
          have al' : ∀ d, 0 ≤ d → d < D → R1.2.1 390 d ≠ 0 := by
            intro d _ y z
            obtain ⟨c, y1, y2, y3⟩ := cnt d y
            exact al d y (by rw [y2, ← y3]; exact z)
          rw [hC, if_neg d0, if_neg m0, p1 (fun d _ y => al d y), s1 al']
          obtain ⟨M2, R2, k1, k2, k3, k4, k4', k5, k6, k7, k8, k9⟩ := ls_ord z3 D 0 x_fu x_fu M R1 (by omega) (by unfold x_fu; omega) (by unfold x_fu; omega) z1 z2 o2 (fun d x => by omega) (fun d _ y => ⟨nc.1 d y, (nc.2.1 d (by omega)).2, al d y⟩)
          rw [show xI 0 = 0 from rfl] at k1 k2
          rw [k1, k2, Option.bind_some, if_pos (show x_b1 1 = true from rfl)]
          have m1 : ∀ a b, (x_wS M2 4 4 1).1 a b = if a = 4 ∧ b = 4 then 1 else M2.1 a b := fun _ _ => rfl
          have m2 : (x_wS M2 4 4 1).2 = M2.2 := rfl
          have n1 : ∀ a b, (x_wS R2 387 2 1).1 a b = if a = 387 ∧ b = 2 then 1 else R2.1 a b := fun _ _ => rfl
          have n2 : (x_wS R2 387 2 1).2 = R2.2 := rfl
          generalize x_wS M2 4 4 1 = M3 at *
          generalize x_wS R2 387 2 1 = R3 at *
          have f1 : ∀ a b, ¬ (9 ≤ a ∧ a < 113) → a ≠ 4 → M3.1 a b = M.1 a b := fun a b x y => by rw [m1, if_neg (by omega)]; exact k4 a b x
          have f2 : ∀ a, ¬ (9 ≤ a ∧ a < 113) → M3.2.1 a = M.2.1 a := fun a x => by rw [m2]; exact k6 a x
          have g1 : ∀ a b, ¬ (a = 387 ∧ b = 2) → R3.1 a b = R1.1 a b := fun a b x => by rw [n1, if_neg x, k7]
          have g2 : ∀ a, a ≠ 391 → a ≠ 392 → R3.2.1 a = R1.2.1 a := fun a x y => by rw [n2]; exact k9 a x y
          refine ⟨1, M3, R3, rfl, rfl, ⟨D, Ms, q, q2, r, r2, ⟨?_, ?_, ?_, ⟨?_, ?_, z3, ?_, ?_, z6⟩, ?_, ?_, ?_, ?_, hc.hq, hc.hr, ?_, Or.inr ⟨?_, ?_, ?_⟩⟩, a1, ?_, ?_, ?_, ?_⟩, ?_, FR_trans fr1 ?_⟩
          · rw [f2 _ (by omega)]; exact hc.tb
          · rw [f2 _ (by omega), g2 _ (by omega) (by omega)]; exact hc.tt
          · unfold NK
            rw [f2 _ (by omega), f2 _ (by omega), g2 _ (by omega) (by omega), g2 _ (by omega) (by omega)]; exact hc.nk
          · rw [m1, if_neg (by omega), k4 _ _ (by omega)]; exact z1
          · rw [g1 _ _ (by omega)]; exact z2
          · rw [m1, if_neg (by omega), k4 _ _ (by omega)]; exact z4
          · rw [g1 _ _ (by omega)]; exact z5
          · rw [m2, k5]; exact hc.q3
          · rw [m2, k5]; exact hc.q4
          · rw [n2, k8]; exact hc.r21
          · rw [n2, k8]; exact hc.r22
          · left
            rcases hc.ask with ⟨b1, b2⟩ | ⟨b1, b2, b3⟩
            · refine ⟨(g1 _ _ (by omega)).trans b1, ?_⟩
              unfold CLR
              rw [f1 _ _ (by omega) (by omega), f1 _ _ (by omega) (by omega), f1 _ _ (by omega) (by omega), f1 _ _ (by omega) (by omega)]; exact b2
            · rw [o1] at b2; exact absurd b2 (by decide)
          · rw [m1, if_pos ⟨rfl, rfl⟩]
          · rw [n1, if_pos ⟨rfl, rfl⟩]
          · intro d hd
            refine OpD_j (k3 d hd) (fun b => ?_) (fun a x y => by rw [m2]) (by rw [n2]) (by rw [n2]) (fun j _ _ => by rw [n2]) (by rw [n2])
            rw [m1, if_neg (by omega)]
          · rw [f1 _ _ (by omega) (by omega)]; exact a2
          · rw [g1 _ _ (by omega)]; exact a3
          · rw [f1 _ _ (by omega) (by omega), g1 _ _ (by omega)]; exact a4
          · rw [f1 _ _ (by omega) (by omega), g1 _ _ (by omega)]; exact a5
          · exact ⟨fun a b x => f1 a b (by omega) (by omega), fun a x => f2 a (by omega), fun a b x => by rw [m2, k5]⟩
          · exact ⟨fun a b x => g1 a b (by omega), fun a x => g2 a (by omega) (by omega), fun a b x y => by rw [n2, k8], by rw [n2, k8]⟩
  · rw [o2, if_neg (by decide)]
    unfold B_MD_open_30
    refine fin true o2 ?_ _ rfl
    unfold F_CT_becomeOpen B_CT_becomeOpen_21
    rw [o1, if_neg (by decide)]
