/-! statements in step -/
theorem bind_126 (x : Option x_m) : (x.bind fun r => B_MD_statement_126 r) = x := by
  cases x <;> rfl
theorem st_eq {R : x_m} {k s e : Nat} {op : Bool} (hk : k ≤ 36) (h1 : k ≠ 1) (h36 : k ≠ 36) (h5 : R.1 387 5 = 0) (h2 : R.1 387 2 = bI op) :
    F_MD_statement (rt R k s e) = if 17 ≤ k ∧ k ≤ 20 then (if decide (k ≠ 20) = op then some (rf (rt R k s e) 8 (xI s)) else if k = 17 then F_MD_dimension0 (rt R k s e) else if k = 18 then F_MD_measure (rt R k s e) else if k = 19 then F_MD_member (rt R k s e) else F_MD_question (rt R k s e)) else some (rf (rt R k s e) (kUn k) (xI s)) := by
  have w0 : F_MD_isWord 0 (rt R k s e) = some (bI (decide (k = 17)), rt R k s e) := F_MD_isWord_eq R (w := 0) hk h1 h36 (by omega)
  have w1 : F_MD_isWord 1 (rt R k s e) = some (bI (decide (k = 18)), rt R k s e) := F_MD_isWord_eq R (w := 1) hk h1 h36 (by omega)
  have w2 : F_MD_isWord 2 (rt R k s e) = some (bI (decide (k = 19)), rt R k s e) := F_MD_isWord_eq R (w := 2) hk h1 h36 (by omega)
  have w3 : F_MD_isWord 3 (rt R k s e) = some (bI (decide (k = 20)), rt R k s e) := F_MD_isWord_eq R (w := 3) hk h1 h36 (by omega)
  have m1 := F_MD_must_1 (rt R k s e) (show (rt R k s e).1 387 5 = 0 from h5)
  have m0 := F_MD_must_0 R (s := s) (e := e) hk h1 h36 h5
  have n1 := F_MD_want_1 (rt R k s e) 8 (xI s) (show (rt R k s e).1 387 5 = 0 from h5)
  have n0 := F_MD_want_0 (rt R k s e) 8 (xI s) (show (rt R k s e).1 387 5 = 0 from h5) (by decide)
  have r2 : (rt R k s e).1 387 2 = bI op := h2
  have r8 : (rt R k s e).1 387 8 = xI s := rfl
  unfold F_MD_statement B_MD_statement_29 B_MD_statement_24 B_MD_statement_43 B_MD_statement_48 B_MD_statement_68 B_MD_statement_29 B_MD_statement_43 B_MD_statement_48 B_MD_statement_68 B_MD_statement_80
  generalize rt R k s e = m at *
  simp only [w0, w1, w2, w3, Option.bind_some, bind_126, bI_0]
  by_cases a : k = 17
  · rw [decide_eq_true a, if_neg (by decide), if_neg (by decide), m1, Option.bind_some, if_neg (show ¬ (1 : Int32) = 0 by decide)]
    simp only [r2, r8, n0, n1, w0, w1, Option.bind_some, bind_126, bI_0, if_true]
    rw [if_pos (show 17 ≤ k ∧ k ≤ 20 by omega), decide_eq_true (show k ≠ 20 by omega), if_pos a, decide_eq_true a]
    cases op <;> simp [show bI true = 1 from rfl, show bI false = 0 from rfl]
  · by_cases b : k = 18
    · rw [decide_eq_false a, if_pos rfl, decide_eq_true b, if_neg (by decide), if_neg (by decide), m1, Option.bind_some, if_neg (show ¬ (1 : Int32) = 0 by decide)]
      simp only [r2, r8, n0, n1, w0, w1, Option.bind_some, bind_126, bI_0, if_true]
      rw [if_pos (show 17 ≤ k ∧ k ≤ 20 by omega), decide_eq_true (show k ≠ 20 by omega), if_neg a, if_pos b, decide_eq_false a, decide_eq_true b]
      cases op <;> simp [show bI true = 1 from rfl, show bI false = 0 from rfl]
    · by_cases c : k = 19
      · rw [decide_eq_false a, if_pos rfl, decide_eq_false b, if_pos rfl, decide_eq_true c, if_neg (by decide), if_neg (by decide), m1, Option.bind_some, if_neg (show ¬ (1 : Int32) = 0 by decide)]
        simp only [r2, r8, n0, n1, w0, w1, Option.bind_some, bind_126, bI_0, if_true]
        rw [if_pos (show 17 ≤ k ∧ k ≤ 20 by omega), decide_eq_true (show k ≠ 20 by omega), if_neg a, if_neg b, if_pos c, decide_eq_false a, decide_eq_false b]
        cases op <;> simp [show bI true = 1 from rfl, show bI false = 0 from rfl]
      · by_cases d : k = 20
        · rw [decide_eq_false a, if_pos rfl, decide_eq_false b, if_pos rfl, decide_eq_false c, if_pos rfl, if_pos trivial, decide_eq_true d, if_neg (by decide), m1, Option.bind_some, if_neg (show ¬ (1 : Int32) = 0 by decide)]
          simp only [r2, r8, n0, n1, w0, w1, Option.bind_some, bind_126, bI_0, if_true]
          rw [if_pos (show 17 ≤ k ∧ k ≤ 20 by omega), decide_eq_false (show ¬ k ≠ 20 by omega), if_neg a, if_neg b, if_neg c, decide_eq_false a, decide_eq_false b]
          cases op <;> simp [show bI true = 1 from rfl, show bI false = 0 from rfl]
        · rw [decide_eq_false a, if_pos rfl, decide_eq_false b, if_pos rfl, decide_eq_false c, if_pos rfl, if_pos trivial, decide_eq_false d, if_pos rfl, m0, Option.bind_some, if_pos rfl, if_neg (show ¬ (17 ≤ k ∧ k ≤ 20) by omega)]
theorem bind_g (x : Option (Int32 × x_m)) {v : Int32} {m : x_m} (h : x = some (v, m)) (hv : x_b1 v = true) : (x.bind fun r => if x_b1 r.1 = true then some (r.1, r.2) else none) = x := by
  rw [h, Option.bind_some, if_pos hv]
theorem cs_eq {M : x_m} {k s e : Nat} {op : Bool} (hk : k ≤ 36) (h4 : M.1 4 4 = bI op) :
    F_CG_readStatement (ct M k s e) = if 17 ≤ k ∧ k ≤ 19 then (if op = true then some (0, cf (ct M k s e) 8 (xI s)) else (F_LX_advance (ct M k s e)).bind fun r61 => if k = 17 then ((F_CG_readDimension r61).bind fun r72 => if x_b1 r72.1 = true then some (r72.1, r72.2) else none) else if k = 18 then ((F_CG_readMeasure r61).bind fun r84 => if x_b1 r84.1 = true then some (r84.1, r84.2) else none) else ((F_CG_readMembers r61).bind fun r91 => if x_b1 r91.1 = true then some (r91.1, r91.2) else none)) else some (0, cf (ct M k s e) (kUn k) (xI s)) := by
  unfold F_CG_readStatement B_CG_readStatement_37 B_CG_readStatement_94
  have c4 : (ct M k s e).1 4 4 = bI op := (ct_o _ _ _ _ _ (by omega)).trans h4
  rw [show (ct M k s e).2.2.1 3 1 = kRf k from rfl, F_LX_tellHere_eq, F_LX_tellUnfit_eq, c4]
  simp only [kRf_kv hk, if_true, kRf_is (j := 17) hk (by omega) (by omega), kRf_is (j := 18) hk (by omega) (by omega), kRf_is (j := 19) hk (by omega) (by omega), Option.bind_some, show x_b1 0 = true from rfl, show (ct M k s e).1 3 2 = xI s from rfl, show (ct M k s e).1 3 8 = kUn k from rfl, bI_0]
  by_cases a : k = 17
  · simp only [if_pos a, if_pos (show 17 ≤ k ∧ k ≤ 19 by omega)]
    cases op <;> rfl
  · by_cases b : k = 18
    · simp only [if_neg a, if_pos b, if_pos (show 17 ≤ k ∧ k ≤ 19 by omega)]
      cases op <;> rfl
    · by_cases c : k = 19
      · simp only [if_neg a, if_neg b, if_pos c, if_pos (show 17 ≤ k ∧ k ≤ 19 by omega)]
        cases op <;> rfl
      · simp only [if_neg a, if_neg b, if_neg c, if_neg (show ¬ (17 ≤ k ∧ k ≤ 19) by omega)]
theorem Zl_w {M R M' R' : x_m} {n : Nat} (h : Zl M R n) (e1 : M'.1 1 1 = M.1 1 1) (f : ∀ a, a = 2 ∨ a = 6 ∨ a = 7 → M'.2.1 a = M.2.1 a) (e2 : R'.1 387 4 = R.1 387 4) (g : ∀ a, a = 388 ∨ a = 393 ∨ a = 394 → R'.2.1 a = R.2.1 a) (z : Fz M' R') : Zl M' R' n := by
  obtain ⟨a1, a2, a3, a4, a5, a6, a7, a8, a9⟩ := h
  refine ⟨a1, e1.trans a2, ?_, e2.trans a4, ?_, z, ?_, ?_, ?_⟩
  · rw [f 2 (by omega)]; exact a3
  · rw [f 2 (by omega), g 388 (by omega)]; exact a5
  · rw [f 6 (by omega), g 393 (by omega)]; exact a7
  · rw [f 7 (by omega), g 394 (by omega)]; exact a8
  · rw [f 7 (by omega)]; exact a9
/-- both are still new -/
theorem CO_new {M R M' R' : x_m} {D Ms q q2 r r2 D' Ms' : Nat} (h : CO M R D Ms q q2 r r2) (ho : M.1 4 4 = 0) (tb : ∀ j, isB (M'.2.1 2 j)) (tt : R'.2.1 388 = M'.2.1 2) (nk : NK M' R') (zd : Zd M' R' D' Ms') (f : M'.1 4 4 = 0) (f' : ∀ a b, q2 ≤ a → a < q2 + 136 → M'.1 a b = M.1 a b) (f3 : ∀ b, b = 3 ∨ b = 4 → M'.2.2.1 114 b = M.2.2.1 114 b) (g : ∀ b, b = 2 ∨ b = 23 → R'.1 387 b = R.1 387 b) (g3 : ∀ b, b = 21 ∨ b = 22 → R'.2.2.1 387 b = R.2.2.1 387 b) (nc : NewC M' R' D') : CO M' R' D' Ms' q q2 r r2 := by
  refine ⟨tb, tt, nk, zd, (f3 _ (Or.inl rfl)).trans h.q3, (f3 _ (Or.inr rfl)).trans h.q4, (g3 _ (Or.inl rfl)).trans h.r21, (g3 _ (Or.inr rfl)).trans h.r22, h.hq, h.hr, ?_, ?_⟩
  · left
    rcases h.ask with ⟨a1, a2⟩ | ⟨a1, a2, a3⟩
    · refine ⟨(g 23 (by omega)).trans a1, ?_⟩
      unfold CLR
      rw [f' _ _ (by omega) (by omega), f' _ _ (by omega) (by omega), f' _ _ (by omega) (by omega), f' _ _ (by omega) (by omega)]
      exact a2
    · rw [ho] at a2; exact absurd a2 (by decide)
  · left
    rcases h.opn with ⟨a1, a2, a3⟩ | ⟨a1, a2, a3⟩
    · exact ⟨f, (g 2 (by omega)).trans a2, nc⟩
    · rw [ho] at a1; exact absurd a1 (by decide)
theorem NewC_of {M R : x_m} {D Ms q q2 r r2 : Nat} (h : CO M R D Ms q q2 r r2) (ho : M.1 4 4 = 0) : NewC M R D := by
  rcases h.opn with ⟨a1, a2, a3⟩ | ⟨a1, a2, a3⟩
  · exact a3
  · rw [ho] at a1; exact absurd a1 (by decide)
theorem LR_of {M R : x_m} {D Ms q q2 r r2 : Nat} (h : CO M R D Ms q q2 r r2) : LR M R D := by
  intro d hd
  rcases h.opn with ⟨a1, a2, a3⟩ | ⟨a1, a2, a3⟩
  · obtain ⟨L, c, b1, b2, b3, b4, b5, _⟩ := a3.1 d hd
    exact ⟨L, b1, b2, b4, b5⟩
  · obtain ⟨L, c, ρ, K, pk, ⟨b1, b2, b3, b4, b5, b6, _⟩, _⟩ := a3 d hd
    exact ⟨L, b1, b2, b5, b6⟩
