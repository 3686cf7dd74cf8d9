/-! the reference's truth of a condition -/
theorem p_195 {m : x_m} {r i c : Nat} (v : Int32) (hr1 : m.2.2.1 387 21 = r) (hr : r = 395 ∨ r = 409) (hi : i < 60) (hc : c ≤ 40) : ∀ (w j f : Nat) (b : Bool), j + w = c → w < f → B_MD_compares_195 f (xI i) v (xI c) (bI b) (xI j) m = some (bI ((b || mem8 (fun k => m.2.1 (r + 13) (40 * i + k)) v w j) == decide (m.2.1 (r + 10) i = 7)), m) := by
  intro w
  induction w with
  | zero =>
    intro j f b hj hf
    cases f with
    | zero => omega
    | succ f =>
      rw [B_MD_compares_195, if_pos (by rw [xI_le (by omega) (by omega)]; omega), hr1, if_pos (y_mq hr), xI_ix (by omega), if_pos (show decide (i < 60) = true by simp; omega), xI_cl (by omega), mem8, Bool.or_false]
      unfold B_MD_compares_260 B_MD_compares_268
      by_cases e : m.2.1 (r + 10) i = 7
      · rw [if_pos e, decide_eq_true e]
        cases b <;> rfl
      · rw [if_neg e, decide_eq_false e]
        cases b <;> rfl
  | succ w ih =>
    intro j f b hj hf
    cases f with
    | zero => omega
    | succ f =>
      rw [B_MD_compares_195, if_neg (by rw [xI_le (by omega) (by omega)]; omega), hr1, if_pos (y_mq hr), show (40 : Int32) = xI 40 from rfl, xI_mul, xI_add, xI_ix (by omega), if_pos (show decide (40 * i + j < 2400) = true by simp; omega), xI_cl (by omega)]
      unfold B_MD_compares_226 B_MD_compares_231
      have i1 := ih (j + 1) f true (by omega) (by omega)
      have i0 := ih (j + 1) f false (by omega) (by omega)
      rw [show bI true = 1 from rfl] at i1
      rw [show bI false = 0 from rfl] at i0
      rw [xI_add1, i1, i0, mem8]
      simp only [bI_0]
      cases b
      · rw [if_pos rfl]
        by_cases e : m.2.1 (r + 13) (40 * i + j) = v
        · rw [if_pos e, if_pos e]; rfl
        · rw [if_neg e, if_neg e]
      · rw [if_neg (by decide)]; rfl
def rel7 (R m : x_m) : Prop := (∀ a b, ¬ (a = 387 ∧ b = 1) → m.1 a b = R.1 a b) ∧ m.2.2 = R.2.2 ∧ ∀ a, a ≠ 423 → m.2.1 a = R.2.1 a
theorem rel7_w {R m : x_m} (h : rel7 R m) (i : Nat) (v : Int32) : rel7 R (x_wA m 423 i v) := by
  refine ⟨h.1, h.2.1, fun a x => ?_⟩
  funext y
  show (if a = 423 ∧ y = i then _ else m.2.1 a y) = _
  rw [if_neg (fun z => x z.1), h.2.2 a x]
theorem cmp_eq {M R m : x_m} {D q r i : Nat} (hO : OpC M R D) (hD : D ≤ 8) (hC : CmpR M R q r D i) (hi : i < 60) (hm : rel7 R m) (hr1 : R.2.2.1 387 21 = r) (hr : r = 395 ∨ r = 409) : F_MD_compares (xI i) m = some (bI (atm M R q i), m) := by
  obtain ⟨col, c1, c2, ⟨L, l1, l2, l3⟩, c3, c4, _, _, ⟨h, h8, hh, hf⟩, hv⟩ := hC
  obtain ⟨L2, c, ρ, K, pk, ⟨e1, e2, e3, e4, e5, e6, e7, e8⟩, f1, f2, f3, f4, f5, f6, f7⟩ := hO _ c2
  have m21 : m.2.2.1 387 21 = r := by rw [hm.2.1]; exact hr1
  have ms : ∀ a, a ≠ 423 → m.2.1 a = R.2.1 a := hm.2.2
  unfold atm
  rw [hv]
  have pv : pvl M R q i = R.2.1 391 (4000 * (col / 4) + 4 * pk + col % 4) := by
    unfold pvl
    rw [c3, xI_cl (by omega), f6, xI_cl (by omega)]
  rw [pv]
  unfold F_MD_compares
  obtain ⟨t1, t2⟩ := col_tab col c1
  rw [m21, if_pos (y_mq hr), xI_ix (by omega), if_pos (show decide (i < 60) = true by simp; omega), xI_cl (by omega), ms (r + 9) (by omega), c4, t2, t1, xI_ix (by omega), if_pos (show decide (col / 4 < 8) = true by simp; omega), xI_cl (by omega), ms 392 (by omega), f7, valOf (by omega) (by omega) (by omega), Option.bind_some, ms 391 (by omega)]
  simp only [m21, y_mq hr, if_true, show (decide (i < 60) = true) = True from by simp; omega]
  rw [ms (r + 10) (by omega), ms (r + 11) (by omega), ms (r + 12) (by omega), hh]
  generalize R.2.1 391 (4000 * (col / 4) + 4 * pk + col % 4) = v
  unfold cmpB
  rw [hh]
  unfold B_MD_compares_103 B_MD_compares_115 B_MD_compares_127 B_MD_compares_139 B_MD_compares_151 B_MD_compares_163 B_MD_compares_187 B_MD_compares_188
  simp only [show x_b1 0 = true from rfl, show x_b1 1 = true from rfl, if_true]
  have hcases : h = 0 ∨ h = 1 ∨ h = 2 ∨ h = 3 ∨ h = 4 ∨ h = 5 ∨ h = 6 ∨ 7 ≤ h := by omega
  have E : ∀ k, k < 9 → (xI h = xI k) = (h = k) := fun k hk => xI_eq (by omega) (by omega)
  simp only [show (xI h = 0) = (h = 0) from E 0 (by omega), show (xI h = 1) = (h = 1) from E 1 (by omega), show (xI h = 2) = (h = 2) from E 2 (by omega), show (xI h = 3) = (h = 3) from E 3 (by omega), show (xI h = 4) = (h = 4) from E 4 (by omega), show (xI h = 5) = (h = 5) from E 5 (by omega), show (xI h = 6) = (h = 6) from E 6 (by omega), show (xI h = 7) = (h = 7) from E 7 (by omega)]
  rcases hcases with z | z | z | z | z | z | z | z
  · subst z
    simp +decide only [if_true, if_false]
    by_cases y : v = R.2.1 (r + 11) i
    · rw [if_pos y, decide_eq_true y]; rfl
    · rw [if_neg y, decide_eq_false y]; rfl
  · subst z
    simp +decide only [if_true, if_false]
    by_cases y : v = R.2.1 (r + 11) i
    · rw [if_pos y, decide_eq_true y]; rfl
    · rw [if_neg y, decide_eq_false y]; rfl
  · subst z
    simp +decide only [if_true, if_false]
    by_cases y : R.2.1 (r + 11) i ≤ v
    · rw [if_pos y, decide_eq_false (Int32.not_lt.mpr y)]; rfl
    · rw [if_neg y, decide_eq_true (Int32.not_le.mp y)]; rfl
  · subst z
    simp +decide only [if_true, if_false]
    by_cases y : R.2.1 (r + 11) i < v
    · rw [if_pos y, decide_eq_false (Int32.not_le.mpr y)]; rfl
    · rw [if_neg y, decide_eq_true (Int32.not_lt.mp y)]; rfl
  · subst z
    simp +decide only [if_true, if_false]
    by_cases y : v ≤ R.2.1 (r + 11) i
    · rw [if_pos y, decide_eq_false (Int32.not_lt.mpr y)]; rfl
    · rw [if_neg y, decide_eq_true (Int32.not_le.mp y)]; rfl
  · subst z
    simp +decide only [if_true, if_false]
    by_cases y : v < R.2.1 (r + 11) i
    · rw [if_pos y, decide_eq_false (Int32.not_le.mpr y)]; rfl
    · rw [if_neg y, decide_eq_true (Int32.not_lt.mp y)]; rfl
  · subst z
    simp +decide only [if_true, if_false]
    by_cases y : v < R.2.1 (r + 11) i
    · rw [if_pos y, decide_eq_false (Int32.not_le.mpr y)]; rfl
    · rw [if_neg y, decide_eq_true (Int32.not_lt.mp y), Bool.true_and]
      by_cases u : R.2.1 (r + 12) i < v
      · rw [if_pos u, decide_eq_false (Int32.not_le.mpr u)]; rfl
      · rw [if_neg u, decide_eq_true (Int32.not_lt.mp u)]; rfl
  · simp only [if_neg (show ¬ h = 0 by omega), if_neg (show ¬ h = 1 by omega), if_neg (show ¬ h = 2 by omega), if_neg (show ¬ h = 3 by omega), if_neg (show ¬ h = 4 by omega), if_neg (show ¬ h = 5 by omega), if_neg (show ¬ h = 6 by omega)]
    obtain ⟨n, n1, n2⟩ := hf z
    rw [n2, xI_cl (by omega)]
    have := p_195 (m := m) (r := r) (i := i) (c := n) v m21 hr hi n1 n 0 x_fu false (by omega) (by unfold x_fu; omega)
    rw [show bI false = 0 from rfl, show xI 0 = 0 from rfl, Bool.false_or, ms (r + 10) (by omega), ms (r + 13) (by omega), hh] at this
    simp only [show (xI h = 7) = (h = 7) from E 7 (by omega)] at this
    exact this
/-- the pile -/
def PS (m : x_m) (st : List Bool) : Prop := ∀ i, i < st.length → m.2.1 423 i = bI (st.getD (st.length - 1 - i) false)
theorem PS_push {m : x_m} {st : List Bool} (h : PS m st) (b : Bool) : PS (x_wA m 423 st.length (bI b)) (b :: st) := by
  intro i hi
  rw [List.length_cons] at hi ⊢
  show (if 423 = 423 ∧ i = st.length then _ else m.2.1 423 i) = _
  by_cases e : i = st.length
  · rw [if_pos ⟨rfl, e⟩, e, show st.length + 1 - 1 - st.length = 0 by omega]; rfl
  · rw [if_neg (fun z => e z.2), h i (by omega), show st.length + 1 - 1 - i = (st.length - 1 - i) + 1 by omega]; rfl
theorem PS_top {m : x_m} {x : Bool} {st : List Bool} (h : PS m (x :: st)) : m.2.1 423 st.length = bI x := by
  rw [h st.length (by rw [List.length_cons]; omega), List.length_cons, show st.length + 1 - 1 - st.length = 0 by omega]; rfl
theorem PS_tail {m : x_m} {x : Bool} {st : List Bool} (h : PS m (x :: st)) : PS m st := by
  intro i hi
  rw [h i (by rw [List.length_cons]; omega), List.length_cons, show st.length + 1 - 1 - i = (st.length - 1 - i) + 1 by omega]; rfl
theorem PS_set {m : x_m} {x : Bool} {st : List Bool} (h : PS m st) : PS (x_wA m 423 st.length (bI x)) (x :: st) := PS_push h x
theorem p_29 {M R : x_m} {D q r cc sn : Nat} (hO : OpC M R D) (hD : D ≤ 8) (hC : ∀ i, i < cc → CmpR M R q r D i) (hcc : cc ≤ 60) (hr1 : R.2.2.1 387 21 = r) (hr : r = 395 ∨ r = 409) (h11 : R.1 r 11 = xI sn) (hsn : sn ≤ 2600) (hs : ∀ j, j < sn → 0 ≤ R.2.1 (r + 8) j → ∃ n, n < cc ∧ R.2.1 (r + 8) j = xI n) : ∀ (k i f : Nat) (st : List Bool) (b : Bool) (m : x_m), i + k = sn → k < f → st.length ≤ 60 → ev (R.2.1 (r + 8)) (atm M R q) k i st = some [b] → rel7 R m → PS m st →
    ∃ m', B_MD_holds_29 f (xI st.length) (xI i) m = some (bI b, m') ∧ rel7 R m' ∧ m'.1 = m.1 := by
  intro k
  induction k with
  | zero =>
    intro i f st b m hi hf hl hev hm hp
    cases f with
    | zero => omega
    | succ f =>
      rw [ev] at hev
      injection hev with hev
      subst hev
      have t := PS_top hp
      rw [B_MD_holds_29, show m.2.2.1 387 21 = r from by rw [hm.2.1]; exact hr1, if_pos (y_mq hr), hm.1 r 11 (by omega), h11, if_pos (by rw [xI_le (by omega) (by omega)]; omega), if_neg (show ¬ xI [b].length = 0 from (show ¬ xI 1 = 0 by decide)), if_pos (by decide), show m.2.1 423 (0 : Int32).toNatClampNeg = bI b from t]
      unfold B_MD_holds_201 B_MD_holds_196 B_MD_holds_201
      simp only [bI_0, show x_b1 0 = true from rfl, show x_b1 1 = true from rfl, if_true]
      refine ⟨m, ?_, hm, rfl⟩
      cases b <;> rfl
  | succ k ih =>
    intro i f st b m hi hf hl hev hm hp
    cases f with
    | zero => omega
    | succ f =>
      have hg : m.2.1 (r + 8) i = R.2.1 (r + 8) i := by rw [hm.2.2 _ (by omega)]
      rw [B_MD_holds_29, show m.2.2.1 387 21 = r from by rw [hm.2.1]; exact hr1, if_pos (y_mq hr), hm.1 r 11 (by omega), h11, if_neg (by rw [xI_le (by omega) (by omega)]; omega), if_pos (y_mq hr), xI_ix (by omega), if_pos (show decide (i < 2600) = true by simp; omega), xI_cl (by omega), hg]
      have sg := hs i (by omega)
      rw [ev] at hev
      generalize R.2.1 (r + 8) i = s at *
      unfold B_MD_holds_99 B_MD_holds_142 B_MD_holds_168 B_MD_holds_173 B_MD_holds_177
      unfold stp at hev
      by_cases c0 : 0 ≤ s
      · obtain ⟨n, n1, n2⟩ := sg c0
        rw [if_pos c0] at hev
        by_cases c1 : st.length < 60
        · rw [if_pos c1, Option.bind_some] at hev
          rw [if_neg (Int32.not_lt.mpr c0), n2, cmp_eq hO hD (hC n n1) (by omega) hm hr1 hr, Option.bind_some, xI_ix (by omega), if_pos (show decide (st.length < 64) = true by simp; omega), xI_cl (by omega), nar_bI, xI_add1, xI_add1]
          rw [n2, xI_cl (by omega)] at hev
          obtain ⟨m', x1, x2, x3⟩ := ih (i + 1) f (atm M R q n :: st) b _ (by omega) (by omega) (by rw [List.length_cons]; omega) hev (rel7_w hm st.length (bI (atm M R q n))) (PS_push hp _)
          exact ⟨m', x1, x2, x3⟩
        · rw [if_neg c1] at hev; exact absurd hev (by simp)
      · rw [if_neg c0] at hev
        have c0' := Int32.not_le.mp c0
        rw [if_pos c0']
        by_cases s1 : s = -1
        · rw [if_pos s1] at hev
          rw [if_pos s1]
          cases st with
          | nil => exact absurd hev (by simp)
          | cons x t =>
            have e1 : xI (x :: t).length - 1 = xI t.length := by
              rw [List.length_cons, show (1 : Int32) = xI 1 from rfl, xI_sub (by omega)]; rfl
            rw [List.length_cons] at hl
            have hev' : ev (R.2.1 (r + 8)) (atm M R q) k (i + 1) ((!x) :: t) = some [b] := hev
            rw [e1, xI_ix (by omega), if_pos (show decide (t.length < 64) = true by simp; omega), xI_cl (by omega), PS_top hp, xI_add1, if_pos (show decide (t.length < 64) = true by simp; omega), if_pos (show decide (t.length < 64) = true by simp; omega)]
            simp only [bI_0]
            have pt := PS_set (x := !x) (PS_tail hp)
            obtain ⟨m', x1, x2, x3⟩ := ih (i + 1) f ((!x) :: t) b _ (by omega) (by omega) (by rw [List.length_cons]; omega) hev' (rel7_w hm t.length (bI (!x))) pt
            refine ⟨m', ?_, x2, x3⟩
            rw [← x1]
            cases x <;> rfl
        · rw [if_neg s1] at hev
          rw [if_neg s1]
          have two : ∀ (x y : Bool) (t : List Bool) (z : Bool), st = x :: y :: t → ev (R.2.1 (r + 8)) (atm M R q) k (i + 1) (z :: t) = some [b] → ∃ m', B_MD_holds_29 f (xI (t.length + 1)) (xI (i + 1)) (x_wA m 423 t.length (vp_nar .boolean (bI z))) = some (bI b, m') ∧ rel7 R m' ∧ m'.1 = m.1 := by
            intro x y t z e hz
            subst e
            rw [List.length_cons, List.length_cons] at hl
            rw [nar_bI]
            exact ih (i + 1) f (z :: t) b _ (by omega) (by omega) (by rw [List.length_cons]; omega) hz (rel7_w hm t.length (bI z)) (PS_set (PS_tail (PS_tail hp)))
          by_cases s2 : s = -2
          · rw [if_pos s2] at hev
            rw [if_pos s2]
            cases st with
            | nil => exact absurd hev (by simp)
            | cons x t =>
              cases t with
              | nil => exact absurd hev (by simp)
              | cons y t =>
                have e2 : xI (x :: y :: t).length - 2 = xI t.length := by
                  rw [List.length_cons, List.length_cons, show (2 : Int32) = xI 2 from rfl, xI_sub (by omega)]; rfl
                have e1 : xI (x :: y :: t).length - 1 = xI (t.length + 1) := by
                  rw [List.length_cons, List.length_cons, show (1 : Int32) = xI 1 from rfl, xI_sub (by omega)]; rfl
                have e3 : xI (x :: y :: t).length + (-1) = xI (t.length + 1) := by
                  rw [List.length_cons, List.length_cons]; exact xI_dec _
                have hev' : ev (R.2.1 (r + 8)) (atm M R q) k (i + 1) ((y && x) :: t) = some [b] := hev
                have T := two x y t (y && x) rfl hev'
                rw [List.length_cons, List.length_cons] at hl
                have p1 : m.2.1 423 (t.length + 1) = bI x := PS_top hp
                have p2 : m.2.1 423 t.length = bI y := PS_top (PS_tail hp)
                rw [e1, e2, e3, xI_ix (by omega), xI_ix (by omega), xI_cl (by omega), xI_cl (by omega), p1, p2, xI_add1]
                simp only [show (decide (t.length < 64) = true) = True from by simp; omega, show (decide (t.length + 1 < 64) = true) = True from by simp; omega, if_true, bI_0]
                cases x <;> cases y <;> exact T
          · rw [if_neg s2] at hev
            rw [if_neg s2]
            cases st with
            | nil => exact absurd hev (by simp)
            | cons x t =>
              cases t with
              | nil => exact absurd hev (by simp)
              | cons y t =>
                have e2 : xI (x :: y :: t).length - 2 = xI t.length := by
                  rw [List.length_cons, List.length_cons, show (2 : Int32) = xI 2 from rfl, xI_sub (by omega)]; rfl
                have e1 : xI (x :: y :: t).length - 1 = xI (t.length + 1) := by
                  rw [List.length_cons, List.length_cons, show (1 : Int32) = xI 1 from rfl, xI_sub (by omega)]; rfl
                have e3 : xI (x :: y :: t).length + (-1) = xI (t.length + 1) := by
                  rw [List.length_cons, List.length_cons]; exact xI_dec _
                have hev' : ev (R.2.1 (r + 8)) (atm M R q) k (i + 1) ((y || x) :: t) = some [b] := hev
                have T := two x y t (y || x) rfl hev'
                rw [List.length_cons, List.length_cons] at hl
                have p1 : m.2.1 423 (t.length + 1) = bI x := PS_top hp
                have p2 : m.2.1 423 t.length = bI y := PS_top (PS_tail hp)
                rw [e1, e2, e3, xI_ix (by omega), xI_ix (by omega), xI_cl (by omega), xI_cl (by omega), p1, p2, xI_add1]
                simp only [show (decide (t.length < 64) = true) = True from by simp; omega, show (decide (t.length + 1 < 64) = true) = True from by simp; omega, if_true, bI_0]
                cases x <;> cases y <;> exact T
