/-! what a condition says -/
theorem nar_bI (b : Bool) : vp_nar .boolean (bI b) = bI b := by cases b <;> rfl
theorem p_lst {m : x_m} {cp c : Nat} (v : Int32) (h4 : m.1 cp 4 = xI c) (hc : c ≤ 40) : ∀ (w i f : Nat), i + w = c → w < f → B_CP_isListed_2 cp f v (xI i) m = some (bI (mem8 (m.2.1 (cp + 1)) v w i), m) := by
  intro w
  induction w with
  | zero =>
    intro i f hi hf
    cases f with
    | zero => omega
    | succ f =>
      rw [B_CP_isListed_2, h4, if_pos (by rw [xI_le (by omega) (by omega)]; omega)]; rfl
  | succ w ih =>
    intro i f hi hf
    cases f with
    | zero => omega
    | succ f =>
      rw [B_CP_isListed_2, h4, if_neg (by rw [xI_le (by omega) (by omega)]; omega), xI_ix (by omega), if_pos (show decide (i < 40) = true by simp; omega), xI_cl (by omega), xI_add1, ih (i + 1) f (by omega) (by omega), mem8]
      by_cases e : m.2.1 (cp + 1) i = v
      · rw [if_pos e, if_pos e]; rfl
      · rw [if_neg e, if_neg e]
theorem acc_eq {m : x_m} {cp c : Nat} (v : Int32) (h4 : m.1 cp 4 = xI c) (hc : c ≤ 40) (h1 : m.1 cp 1 = 0 ∨ m.1 cp 1 = 1) : F_CP_accepts cp v m = some (bI (accB m cp v), m) := by
  have b36 : ∀ b : Bool, B_CP_accepts_36 cp (bI b) m = some (bI (b != decide (m.1 cp 1 = 1)), m) := by
    intro b
    unfold B_CP_accepts_36 B_CP_accepts_50
    rcases h1 with z | z <;> rw [z] <;> cases b <;> rfl
  unfold F_CP_accepts accB B_CP_accepts_27
  have b0 := b36 false
  have b1 := b36 true
  rw [show bI false = 0 from rfl] at b0
  rw [show bI true = 1 from rfl] at b1
  by_cases z : m.1 cp 4 = 0
  · rw [if_pos z, if_pos z, b0, b1]
    by_cases l : v < m.1 cp 2
    · rw [if_pos l, decide_eq_false (Int32.not_le.mpr l), Bool.false_and]
    · rw [if_neg l, decide_eq_true (Int32.not_lt.mp l), Bool.true_and]
      by_cases u : m.1 cp 3 < v
      · rw [if_pos u, decide_eq_false (Int32.not_le.mpr u)]
      · rw [if_neg u, decide_eq_true (Int32.not_lt.mp u)]
  · rw [if_neg z, if_neg z]
    unfold F_CP_isListed
    rw [show (0 : Int32) = xI 0 from rfl, p_lst v h4 hc c 0 x_fu (by omega) (by unfold x_fu; omega), Option.bind_some, h4, xI_cl (by omega)]
    exact b36 _
theorem col_tab : ∀ c, c < 32 → xI c / 4 = xI (c / 4) ∧ xI c - xI c / 4 * 4 = xI (c % 4) := by decide +kernel
def pvl (M R : x_m) (q i : Nat) : Int32 := R.2.1 391 (4000 * ((M.1 (q + 16 + 2 * i) 0).toNatClampNeg / 4) + 4 * (M.1 (9 + 13 * ((M.1 (q + 16 + 2 * i) 0).toNatClampNeg / 4)) 2).toNatClampNeg + (M.1 (q + 16 + 2 * i) 0).toNatClampNeg % 4)
def atm (M R : x_m) (q i : Nat) : Bool := accB M (q + 16 + 2 * i) (pvl M R q i)
theorem pick_eq {M R m : x_m} {D q r i : Nat} (hO : OpC M R D) (hD : D ≤ 8) (hC : CmpR M R q r D i) (hm1 : m.1 = M.1) (hm2 : ∀ a, a < 113 → m.2.1 a = M.2.1 a) : F_CT_pickedValue (m.1 (q + 16 + 2 * i) 0) m = some (pvl M R q i, m) := by
  obtain ⟨col, c1, c2, ⟨L, l1, l2, l3⟩, c3, c4, _⟩ := hC
  obtain ⟨L2, c, ρ, K, pk, ⟨e1, e2, e3, e4, e5, e6, e7, e8⟩, f1, f2, f3, f4, f5, f6, f7⟩ := hO _ c2
  have LL : L2 = L := by
    have := e5.symm.trans l1
    rwa [xI_eq (by omega) (by omega)] at this
  subst LL
  unfold F_CT_pickedValue F_CT_dimensionOf F_CT_levelOf pvl
  obtain ⟨t1, t2⟩ := col_tab col c1
  rw [hm1, c3, xI_cl (by omega), Option.bind_some]
  simp only []
  rw [t2, t1, xI_ix (by omega), if_pos (show decide (col / 4 < 8) = true by simp; omega), Option.bind_some, xI_cl (by omega)]
  simp only []
  rw [hm1, f6, xI_cl (by omega), valAt (M := m) (R := R) e2 e4 (by rw [hm2 _ (by omega)]; exact f1) (fun l i hl hi => by rw [hm2 _ (by omega)]; exact f2 l i hl hi) l3 f5, Option.bind_some]
def rel6 (p : Nat) (M m : x_m) : Prop := m.1 = M.1 ∧ m.2.2 = M.2.2 ∧ ∀ a, a ≠ p + 6 → m.2.1 a = M.2.1 a
theorem rel6_w {p : Nat} {M m : x_m} (h : rel6 p M m) (i : Nat) (v : Int32) : rel6 p M (x_wA m (p + 6) i v) := by
  refine ⟨h.1, h.2.1, fun a x => ?_⟩
  funext y
  show (if a = p + 6 ∧ y = i then _ else m.2.1 a y) = _
  rw [if_neg (fun z => x z.1), h.2.2 a x]
theorem p_11 {M R : x_m} {D q r cc jc : Nat} (hq : q = 115 ∨ q = 251) (hO : OpC M R D) (hD : D ≤ 8) (hC : ∀ i, i < cc → CmpR M R q r D i) (hI : CI M (q + 6) cc jc 0) : ∀ (w i f : Nat) (m : x_m), i + w = cc → w < f → rel6 (q + 6) M m → (∀ x, x < i → m.2.1 (q + 6 + 6) x = bI (tvL M (q + 6) (atm M R q) 0 x)) →
    ∃ m', B_CN_isTrueFor_11 (q + 6) f (xI i) m = B_CN_isTrueFor_71 (q + 6) x_fu 0 m' ∧ rel6 (q + 6) M m' ∧ (∀ x, x < cc → m'.2.1 (q + 6 + 6) x = bI (tvL M (q + 6) (atm M R q) 0 x)) := by
  have cc60 := hI.2.2.2.1
  intro w
  induction w with
  | zero =>
    intro i f m hi hf hr hx
    cases f with
    | zero => omega
    | succ f =>
      rw [B_CN_isTrueFor_11, hr.1, hI.1, if_pos (by rw [xI_le (by omega) (by omega)]; omega)]
      exact ⟨m, rfl, hr, fun x y => hx x (by omega)⟩
  | succ w ih =>
    intro i f m hi hf hr hx
    cases f with
    | zero => omega
    | succ f =>
      have hCi := hC i (by omega)
      have pe := pick_eq (m := m) hO hD hCi hr.1 (fun a ha => hr.2.2 a (by omega))
      obtain ⟨col, c1, c2, _, c3, c4, ⟨c, c5, c6⟩, c7, _⟩ := hCi
      have ac := acc_eq (m := m) (cp := q + 16 + 2 * i) (pvl M R q i) (by rw [hr.1]; exact c6) c5 (by rw [hr.1]; exact c7)
      have aE : accB m (q + 16 + 2 * i) (pvl M R q i) = atm M R q i := by
        unfold atm accB
        rw [hr.1, hr.2.2 _ (by omega)]
      rw [B_CN_isTrueFor_11, show m.1 (q + 6) 0 = xI cc from by rw [hr.1]; exact hI.1, if_neg (by rw [xI_le (by omega) (by omega)]; omega), xI_ix (by omega), if_pos (show decide (i < 60) = true by simp; omega), xI_cl (by omega), show q + 6 + 10 + 2 * i = q + 16 + 2 * i by omega, pe, Option.bind_some]
      simp only [show (decide (i < 60) = true) = True from by simp; omega, if_true]
      rw [ac, Option.bind_some, aE, xI_ix (by omega)]
      simp only [show (decide (i < 119) = true) = True from by simp; omega, if_true]
      unfold B_CN_isTrueFor_62
      rw [xI_ix (by omega), if_pos (show decide (i < 119) = true by simp; omega), if_pos (show decide (i < 119) = true by simp; omega), xI_cl (by omega), xI_add1]
      have nv : m.2.1 (q + 6 + 5) i = 0 ∨ m.2.1 (q + 6 + 5) i = 1 := by
        rw [hr.2.2 _ (by omega)]; exact hI.2.2.2.2.2.2.2 i (Or.inl (by omega))
      have tE : tvL M (q + 6) (atm M R q) 0 i = (atm M R q i != decide (m.2.1 (q + 6 + 5) i = 1)) := by
        rw [hr.2.2 _ (by omega)]; rfl
      have step : ∀ v : Int32, v = bI (tvL M (q + 6) (atm M R q) 0 i) → ∃ m', B_CN_isTrueFor_11 (q + 6) f (xI (i + 1)) (x_wA m (q + 6 + 6) i (vp_nar .boolean v)) = B_CN_isTrueFor_71 (q + 6) x_fu 0 m' ∧ rel6 (q + 6) M m' ∧ (∀ x, x < cc → m'.2.1 (q + 6 + 6) x = bI (tvL M (q + 6) (atm M R q) 0 x)) := by
        intro v hv
        subst hv
        rw [nar_bI]
        refine ih (i + 1) f _ (by omega) (by omega) (rel6_w hr _ _) (fun x y => ?_)
        show (if q + 6 + 6 = q + 6 + 6 ∧ x = i then _ else m.2.1 (q + 6 + 6) x) = _
        by_cases ex : x = i
        · rw [if_pos ⟨rfl, ex⟩, ex]
        · rw [if_neg (fun z => ex z.2)]; exact hx x (by omega)
      by_cases e : bI (atm M R q i) = m.2.1 (q + 6 + 5) i
      · rw [if_pos e]
        refine step 0 ?_
        rw [tE, ← e]
        cases atm M R q i <;> rfl
      · rw [if_neg e]
        refine step 1 ?_
        rw [tE]
        rcases nv with z | z <;> rw [z] at e ⊢ <;> cases h : atm M R q i <;> rw [h] at e <;> first | rfl | exact absurd rfl e
theorem p_71 {M : x_m} {p cc jc : Nat} {a : Nat → Bool} (hI : CI M p cc jc 0) (hcc : 0 < cc) : ∀ (w j f : Nat) (m : x_m), j + w = jc → w < f → rel6 p M m → (∀ x, vld cc j x → m.2.1 (p + 6) x = bI (tvL M p a j x)) →
    ∃ m', B_CN_isTrueFor_71 p f (xI j) m = some (bI (tvL M p a jc (root jc)), m') ∧ rel6 p M m' := by
  obtain ⟨i1, i2, i3, i4, i5, i6, i7, i8⟩ := hI
  intro w
  induction w with
  | zero =>
    intro j f m hj hf hr hx
    cases f with
    | zero => omega
    | succ f =>
      have : j = jc := by omega
      subst this
      rw [B_CN_isTrueFor_71, hr.1, i2, if_pos (Int32.le_refl _)]
      unfold B_CN_isTrueFor_202
      have rv : vld cc j (root j) := by
        unfold vld root
        split <;> omega
      have rE := hx _ rv
      have rl : root j < 119 := by unfold vld at rv; omega
      have ri : (if xI j = 0 then (if x_ix 0 119 = true then (if x_b1 (m.2.1 (p + 6) (0 : Int32).toNatClampNeg) = true then some (m.2.1 (p + 6) (0 : Int32).toNatClampNeg, m) else none) else none) else (if x_ix (60 + xI j - 1) 119 = true then (if x_b1 (m.2.1 (p + 6) (60 + xI j - 1).toNatClampNeg) = true then some (m.2.1 (p + 6) (60 + xI j - 1).toNatClampNeg, m) else none) else none)) = (if x_ix (xI (root j)) 119 = true then (if x_b1 (m.2.1 (p + 6) (xI (root j)).toNatClampNeg) = true then some (m.2.1 (p + 6) (xI (root j)).toNatClampNeg, m) else none) else none) := by
        unfold root
        by_cases z : j = 0
        · subst z; rfl
        · rw [if_neg (fun y => by rw [show (0 : Int32) = xI 0 from rfl, xI_eq (by omega) (by omega)] at y; exact z y), if_neg z, show (60 : Int32) + xI j = xI (60 + j) from xI_add 60 j, show (1 : Int32) = xI 1 from rfl, xI_sub (by omega)]
      rw [ri, xI_ix (by omega), if_pos (show decide (root j < 119) = true by simp; omega), xI_cl (by omega), rE, if_pos (bI_1 _)]
      exact ⟨m, rfl, hr⟩
  | succ w ih =>
    intro j f m hj hf hr hx
    cases f with
    | zero => omega
    | succ f =>
      obtain ⟨l, r, v1, v2, e1, e2, e3⟩ := i7 j (by omega)
      have l9 : l < 119 := by unfold vld at v1; omega
      have r9 : r < 119 := by unfold vld at v2; omega
      have tl := hx l v1
      have tr := hx r v2
      have q2 : m.2.1 (p + 2) j = xI l := by rw [hr.2.2 _ (by omega)]; exact e1
      have q3 : m.2.1 (p + 3) j = xI r := by rw [hr.2.2 _ (by omega)]; exact e2
      have q4 : m.2.1 (p + 4) j = M.2.1 (p + 4) j := by rw [hr.2.2 _ (by omega)]
      have q5 : m.2.1 (p + 5) (60 + j) = M.2.1 (p + 5) (60 + j) := by rw [hr.2.2 _ (by omega)]
      have nv := i8 (60 + j) (Or.inr ⟨by omega, by omega⟩)
      have tj : tvL M p a (j + 1) (60 + j) = ((if M.2.1 (p + 4) j = 0 then (tvL M p a j l || tvL M p a j r) else (tvL M p a j l && tvL M p a j r)) != decide (M.2.1 (p + 5) (60 + j) = 1)) := by
        rw [tvL, if_pos rfl, e1, e2, xI_cl (by omega), xI_cl (by omega)]
      rw [B_CN_isTrueFor_71, hr.1, i2, if_neg (by rw [xI_le (by omega) (by omega)]; omega), xI_ix (by omega), xI_cl (by omega), q2, q3, xI_ix (by omega), xI_ix (by omega), xI_cl (by omega), xI_cl (by omega), tl, tr, show (60 : Int32) + xI j = xI (60 + j) from xI_add 60 j]
      simp only [show (decide (j < 59) = true) = True from by simp; omega, show (decide (l < 119) = true) = True from by simp; omega, show (decide (r < 119) = true) = True from by simp; omega, if_true, bI_0]
      have fin : ∀ b : Bool, b = (if M.2.1 (p + 4) j = 0 then (tvL M p a j l || tvL M p a j r) else (tvL M p a j l && tvL M p a j r)) → ∃ m', B_CN_isTrueFor_156 p (B_CN_isTrueFor_71 p f) (xI j) (xI (60 + j)) (bI b) (xI (60 + j)) m = some (bI (tvL M p a jc (root jc)), m') ∧ rel6 p M m' := by
        intro b hb
        have step : ∀ v : Int32, v = bI (tvL M p a (j + 1) (60 + j)) → ∃ m', B_CN_isTrueFor_71 p f (xI (j + 1)) (x_wA m (p + 6) (60 + j) (vp_nar .boolean v)) = some (bI (tvL M p a jc (root jc)), m') ∧ rel6 p M m' := by
          intro v hv
          subst hv
          rw [nar_bI]
          refine ih (j + 1) f _ (by omega) (by omega) (rel6_w hr _ _) (fun x y => ?_)
          show (if p + 6 = p + 6 ∧ x = 60 + j then _ else m.2.1 (p + 6) x) = _
          by_cases ex : x = 60 + j
          · rw [if_pos ⟨rfl, ex⟩, ex]
          · rw [if_neg (fun z => ex z.2), tvL, if_neg ex]
            exact hx x (by unfold vld at y ⊢; omega)
        unfold B_CN_isTrueFor_156 B_CN_isTrueFor_171
        rw [xI_ix (by omega), if_pos (show decide (60 + j < 119) = true by simp; omega), xI_cl (by omega), q5, xI_add1]
        simp only [show (decide (60 + j < 119) = true) = True from by simp; omega, if_true]
        by_cases e : bI b = M.2.1 (p + 5) (60 + j)
        · rw [if_pos e]
          refine step 0 ?_
          rw [tj, ← hb, ← e]
          cases b <;> rfl
        · rw [if_neg e]
          refine step 1 ?_
          rw [tj, ← hb]
          rcases nv with z | z <;> rw [z] at e ⊢ <;> cases b <;> first | rfl | exact absurd rfl e
      unfold B_CN_isTrueFor_151 B_CN_isTrueFor_138
      rw [q4]
      have f0 := fin false
      have f1 := fin true
      rw [show bI false = 0 from rfl] at f0
      rw [show bI true = 1 from rfl] at f1
      by_cases o : M.2.1 (p + 4) j = 0
      · rw [if_pos o] at f0 f1 ⊢
        cases hl : tvL M p a j l <;> cases hr' : tvL M p a j r <;> rw [hl, hr'] at f0 f1 <;> first | exact f0 rfl | exact f1 rfl
      · rw [if_neg o] at f0 f1 ⊢
        cases hl : tvL M p a j l <;> cases hr' : tvL M p a j r <;> rw [hl, hr'] at f0 f1 <;> first | exact f0 rfl | exact f1 rfl
