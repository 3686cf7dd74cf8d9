/-! picks, letters, find -/
theorem OpC_of {M R : x_m} {D Ms q q2 r r2 : Nat} (h : CO M R D Ms q q2 r r2) (ho : ¬ M.1 4 4 = 0) : R.1 387 2 = 1 ∧ M.1 4 4 = 1 ∧ OpC M R D := by
  rcases h.opn with ⟨a1, a2, a3⟩ | ⟨a1, a2, a3⟩
  · exact absurd a1 ho
  · exact ⟨a2, a1, a3⟩
theorem New_of {M R : x_m} {D Ms q q2 r r2 : Nat} (h : CO M R D Ms q q2 r r2) (ho : M.1 4 4 = 0) : R.1 387 2 = 0 := by
  rcases h.opn with ⟨a1, a2, a3⟩ | ⟨a1, a2, a3⟩
  · exact a2
  · rw [ho] at a1; exact absurd a1 (by decide)
theorem LO_pick {M R : x_m} {n : Nat} (h : SR M R n) (a p : Int32) : LO n M R (F_LW_pick a p M) (F_MD_pick a p R) := by
  have h' := h
  obtain ⟨D, Ms, q, q2, r, r2, hc, a1, a2, a3, a4, a5⟩ := h'
  have hq := hc.hq
  have hr := hc.hr
  have bad : LO n M R ((some ((Sum.inr true : Int32 ⊕ Bool), M)).bind fun r => x_w2 r) (some (0, x_wS R 387 1 1)) := LO_x2 true _ rfl rfl h
  have badS : LO n M R ((some ((Sum.inr false : Int32 ⊕ Bool), M)).bind fun r => x_w2 r) (some (0, x_wS R 387 1 2)) := LO_x2 false _ rfl rfl h
  unfold F_LW_pick F_QR_pick F_MD_pick B_MD_pick_26 B_MD_pick_27 B_MD_pick_49
  simp only [ref_1, show ((1 : Int32) ≤ 0) = False from by decide, show ((2 : Int32) ≤ 0) = False from by decide, show ((1 : Int32) = 0) = False from by decide, show ((0 : Int32) ≤ 0) = True from by decide, if_false, if_true]
  rcases hasD hc a with ⟨d, d1, d8, d2, d3, d4⟩ | ⟨_, d3, d4⟩
  · obtain ⟨L, c, ρ, ⟨b1, b2, b3, b4, b5, b6, b7⟩, v1, v2⟩ := ValD_of hc d1
    subst d2
    rw [d4, Option.bind_some]
    simp only [show ((1 : Int32) = 0) = False from by decide, if_false]
    rw [xI_ix (by omega), if_pos (show decide (d < 8) = true by simp; omega), xI_cl (by omega), b7]
    rcases hasM d8 b3 b6 d3 p with ⟨p', p1, p2, p3⟩ | ⟨p1, p3⟩
    · subst p2
      rw [p3, Option.bind_some, if_neg (xI_not_neg (j := p') (by omega))]
      simp only [xI_le (a := c) (b := p') (by omega) (by omega), if_neg (show ¬ c ≤ p' by omega), show ((1 : Int32) = 0) = False from by decide, if_false]
      by_cases ho : M.1 4 4 = 0
      · rw [if_pos ho, if_pos (New_of hc ho)]
        exact badS
      · obtain ⟨o1, o2, o3⟩ := OpC_of hc ho
        rw [if_neg ho, if_neg (show ¬ R.1 387 2 = 0 by rw [o1]; decide)]
        simp only [show (decide (d < 8) = true) = True from by simp; omega, if_true]
        obtain ⟨L2, c2, ρ2, K, pk, ⟨e1, e2, e3, e4, e5, e6, e7, e8⟩, f1, f2, f3, f4, f5, f6, f7⟩ := o3 d d1
        have cc : c2 = c := by
          have := e7.symm.trans b6
          rwa [xI_eq (by omega) (by omega)] at this
        subst cc
        rw [f6, show (x_wS R 387 1 0).2.1 392 d = xI pk from f7]
        refine LO_v2 (n' := n) (M' := x_wS M (9 + 13 * d) 2 (xI p')) (R' := x_wA R 392 d (xI p')) _ rfl rfl ⟨D, Ms, q, q2, r, r2, ?_, a1, ?_, a3, ?_, ?_⟩ (FC_S _ _ (by omega)) (FR_A _ _ (by omega))
        · have m1 : ∀ x y, (x_wS M (9 + 13 * d) 2 (xI p')).1 x y = if x = 9 + 13 * d ∧ y = 2 then xI p' else M.1 x y := fun _ _ => rfl
          have m2 : (x_wS M (9 + 13 * d) 2 (xI p')).2 = M.2 := rfl
          have n1 : (x_wA R 392 d (xI p')).1 = R.1 := rfl
          have n2 : ∀ x y, (x_wA R 392 d (xI p')).2.1 x y = if x = 392 ∧ y = d then xI p' else R.2.1 x y := fun _ _ => rfl
          have n3 : (x_wA R 392 d (xI p')).2.2 = R.2.2 := rfl
          generalize x_wS M (9 + 13 * d) 2 (xI p') = M' at *
          generalize x_wA R 392 d (xI p') = R' at *
          have n2' : ∀ x, x ≠ 392 → R'.2.1 x = R.2.1 x := fun x hx => by
            funext y
            rw [n2, if_neg (fun z => hx z.1)]
          refine ⟨?_, ?_, ?_, ⟨?_, ?_, hc.zd.2.2.1, ?_, ?_, hc.zd.2.2.2.2.2⟩, ?_, ?_, ?_, ?_, hc.hq, hc.hr, ?_, Or.inr ⟨?_, ?_, fun d' hd' => ?_⟩⟩
          · rw [m2]; exact hc.tb
          · rw [m2, n2' _ (by omega)]; exact hc.tt
          · unfold NK
            rw [m2, n2' _ (by omega), n2' _ (by omega)]; exact hc.nk
          · rw [m1, if_neg (by omega)]; exact hc.zd.1
          · rw [n1]; exact hc.zd.2.1
          · rw [m1, if_neg (by omega)]; exact hc.zd.2.2.2.1
          · rw [n1]; exact hc.zd.2.2.2.2.1
          · rw [m2]; exact hc.q3
          · rw [m2]; exact hc.q4
          · rw [n3]; exact hc.r21
          · rw [n3]; exact hc.r22
          · rw [n1, m1, if_neg (by omega)]
            rcases hc.ask with ⟨x1, x2⟩ | ⟨x1, x2, x3⟩
            · left
              refine ⟨x1, ?_⟩
              unfold CLR
              rw [m1, if_neg (by omega), m1, if_neg (by omega), m1, if_neg (by omega), m1, if_neg (by omega)]; exact x2
            · right
              refine ⟨x1, x2, QR_k x3 (by omega) hc.zd.2.2.1 (fun a b x y => ?_) (fun a x y => by rw [m2]) (fun d' _ => ?_) (fun a b x y => by rw [n1]) (fun a x y => n2' a (by omega))⟩
              · rw [m1, if_neg (by omega)]
              · rw [m1, if_neg (by omega)]
          · rw [m1, if_neg (by omega)]; exact o2
          · rw [n1]; exact o1
          · by_cases ed : d' = d
            · subst ed
              refine ⟨L2, c2, ρ2, K, p', ⟨e1, e2, e3, e4, ?_, ?_, ?_, ?_⟩, by rw [m2]; exact f1, fun l i hl hi => ?_, fun i j x y => ?_, fun l hl => ?_, p1, ?_, ?_⟩
              · rw [m1, if_neg (by omega)]; exact e5
              · rw [n2' _ (by omega)]; exact e6
              · rw [m1, if_neg (by omega)]; exact e7
              · rw [n2' _ (by omega)]; exact e8
              · rw [m2, n2' _ (by omega)]; exact f2 l i hl hi
              · rw [n2' _ (by omega)]; exact f3 i j x y
              · have := f4 l hl
                unfold SrtD at *
                rw [m2, n2' _ (by omega)]; exact this
              · rw [m1, if_pos ⟨rfl, rfl⟩]
              · rw [n2, if_pos ⟨rfl, rfl⟩]
            · have hD := hc.zd.2.2.1
              refine OpD_j (o3 d' hd') (fun b => ?_) (fun a x y => by rw [m2]) (by rw [n2' _ (by omega)]) (by rw [n2' _ (by omega)]) (fun j _ _ => by rw [n2' _ (by omega)]) ?_
              · rw [m1, if_neg (by omega)]
              · rw [n2, if_neg (by omega)]
        · show (if 1 = 9 + 13 * d ∧ 1 = 2 then _ else M.1 1 1) = _
          rw [if_neg (by omega)]; exact a2
        · show (if 3 = 9 + 13 * d ∧ 5 = 2 then _ else M.1 3 5) = _
          rw [if_neg (by omega)]; exact a4
        · show (if 3 = 9 + 13 * d ∧ 6 = 2 then _ else M.1 3 6) = _
          rw [if_neg (by omega)]; exact a5
    · rw [p3, Option.bind_some]
      simp only [if_true]
      rcases p1 with z | ⟨p', y1, y2, y3⟩
      · rw [if_pos z]; exact bad
      · subst y3
        rw [if_neg (xI_not_neg y2), if_pos (by rw [xI_le (by omega) y2]; exact y1)]
        exact bad
  · rw [hasM_no (R := R) a p d3, d4, Option.bind_some, Option.bind_some]
    simp only [if_true]
    exact bad
theorem nm_tab : ∀ k, k < 40 → 8 ≤ k → (xI k - 8) / 4 = xI (k / 4 - 2) ∧ (xI k - 8) - (xI k - 8) / 4 * 4 = xI (k % 4) ∧ xI k / 4 - 2 = xI (k / 4 - 2) ∧ xI k &&& 3 = xI (k % 4) := by decide +kernel
theorem named {M R : x_m} {D Ms q q2 r r2 : Nat} (hc : CO M R D Ms q q2 r r2) (a : Int32) : (∃ k, k < 48 ∧ a = xI k ∧ F_CT_hasName a M = some (1, M) ∧ F_MD_isNamed a R = some (1, R)) ∨ (F_CT_hasName a M = some (0, M) ∧ F_MD_isNamed a R = some (0, R)) := by
  have hD := hc.zd.2.2.1
  have hMs := hc.zd.2.2.2.2.2
  unfold F_CT_hasName F_MD_isNamed B_CT_hasName_52 B_MD_isNamed_83 B_MD_isNamed_82 B_MD_isNamed_62 B_MD_isNamed_22 B_MD_isNamed_83
  rw [hc.zd.2.1, hc.zd.2.2.2.1, hc.zd.2.2.2.2.1]
  simp only [show x_b1 0 = true from rfl, show x_b1 1 = true from rfl, if_true]
  by_cases z : a < 0
  · right
    have n8 : ¬ 8 ≤ a := fun y => absurd (Int32.lt_of_le_of_lt y z) (by decide)
    have l40 : a < 40 := Int32.lt_trans z (by decide)
    have l8 : a < 8 := Int32.lt_trans z (by decide)
    rw [if_neg n8, if_pos l40, if_pos l8, if_pos z]
    rcases hasD hc a with ⟨d, d1, d8, d2, d3, d4⟩ | ⟨_, d3, d4⟩
    · subst d2; exact absurd z (xI_not_neg (by omega))
    · rw [d3, Option.bind_some]; exact ⟨rfl, rfl⟩
  · obtain ⟨k, k1, k2⟩ := nn_ex a z
    subst k2
    simp only [show (8 ≤ xI k) = (8 ≤ k) from xI_le (a := 8) (by omega) k1, show (40 ≤ xI k) = (40 ≤ k) from xI_le (a := 40) (by omega) k1, show (xI k < 40) = (k < 40) from xI_lt (b := 40) k1 (by omega), show (xI k < 8) = (k < 8) from xI_lt (b := 8) k1 (by omega), if_neg z]
    by_cases k8 : k < 8
    · rw [if_neg (show ¬ 8 ≤ k by omega), if_pos (show k < 40 by omega), if_pos k8]
      unfold F_CT_hasDimension B_CT_hasDimension_16 B_CT_hasDimension_17
      rw [hc.zd.1, if_neg z]
      simp only [xI_le (a := D) (b := k) (by omega) k1, show x_b1 0 = true from rfl, show x_b1 1 = true from rfl, if_true]
      by_cases y : D ≤ k
      · right
        rw [if_pos y, if_pos y, Option.bind_some]; exact ⟨rfl, rfl⟩
      · left
        rw [if_neg y, if_neg y, Option.bind_some]; exact ⟨k, by omega, rfl, rfl, rfl⟩
    · rw [if_pos (show 8 ≤ k by omega), if_neg k8]
      by_cases k40 : 40 ≤ k
      · rw [if_pos k40, if_neg (show ¬ k < 40 by omega), show (40 : Int32) = xI 40 from rfl, xI_sub k40, xI_add]
        simp only [xI_le (a := Ms) (b := k - 40) (by omega) (by omega), xI_le (a := 40 + Ms) (b := k) (by omega) k1]
        by_cases y : Ms ≤ k - 40
        · right
          rw [if_pos y, if_pos (show 40 + Ms ≤ k by omega)]; exact ⟨rfl, rfl⟩
        · left
          rw [if_neg y, if_neg (show ¬ 40 + Ms ≤ k by omega)]; exact ⟨k, by omega, rfl, rfl, rfl⟩
      · obtain ⟨t1, t2, t3, t4⟩ := nm_tab k (by omega) (by omega)
        unfold F_CT_dimensionOf F_CT_levelOf
        rw [if_neg k40, if_pos (show k < 40 by omega), Option.bind_some, Option.bind_some]
        simp only []
        rw [t2, t1, t3, t4, show (4 : Int32) = xI 4 from rfl, show (8 : Int32) = xI 8 from rfl, xI_mul, xI_add]
        simp only [xI_le (a := 8 + 4 * D) (b := k) (by omega) k1]
        rcases hasD hc (xI (k / 4 - 2)) with ⟨d, d1, d8, d2, d3, d4⟩ | ⟨dn, d3, d4⟩
        · rw [xI_eq (by omega) (by omega)] at d2
          obtain ⟨L, c, ρ, ⟨b1, b2, b3, b4, b5, b6, b7⟩, v1, v2⟩ := ValD_of hc d1
          rw [if_neg (show ¬ 8 + 4 * D ≤ k by omega), d2] at *
          rw [xI_ix (by omega), if_pos (show decide (d < 8) = true by simp; omega), xI_cl (by omega), b5]
          rcases hasL d8 b2 b4 d3 (xI (k % 4)) with ⟨l', l1, l2, l3⟩ | ⟨l1, l3⟩
          · left
            rw [xI_eq (by omega) (by omega)] at l2
            rw [l3, Option.bind_some, if_neg (show ¬ xI L ≤ xI (k % 4) by rw [xI_le (by omega) (by omega)]; omega)]
            exact ⟨k, by omega, rfl, rfl, rfl⟩
          · right
            rw [l3, Option.bind_some]
            rcases l1 with y | ⟨l', y1, y2, y3⟩
            · exact absurd y (xI_not_neg (by omega))
            · rw [xI_eq (by omega) y2] at y3
              rw [if_pos (show xI L ≤ xI (k % 4) by rw [xI_le (by omega) (by omega)]; omega)]
              exact ⟨rfl, rfl⟩
        · right
          have dd : D ≤ k / 4 - 2 := by
            rcases dn with y | ⟨d, y1, y2, y3⟩
            · exact absurd y (xI_not_neg (by omega))
            · rw [xI_eq (by omega) y2] at y3; omega
          rw [if_pos (show 8 + 4 * D ≤ k by omega), hasL_no (R := R) _ _ d3, Option.bind_some]
          exact ⟨rfl, rfl⟩
theorem LO_letter {M R : x_m} {n : Nat} (h : SR M R n) (a i : Int32) : LO n M R (F_LW_letter a i M) (F_MD_letter a i R) := by
  have h' := h
  obtain ⟨D, Ms, q, q2, r, r2, hc, a1, a2, a3, a4, a5⟩ := h'
  have bad : LO n M R ((some ((Sum.inr true : Int32 ⊕ Bool), M)).bind fun r => x_w1 true r) (some (0, x_wS R 387 1 1)) := LO_x1 true _ rfl rfl h
  have val : ∀ v : Int32, LO n M R ((some ((Sum.inl v : Int32 ⊕ Bool), M)).bind fun r => x_w1 true r) (some (v, x_wS R 387 1 0)) := fun v => LO_v1 (n := n) true v rfl rfl h (FC_refl _) (FR_refl _)
  unfold F_LW_letter F_QR_letter F_MD_letter B_QR_letter_19 B_QR_letter_20 B_MD_letter_17 B_MD_letter_18 B_MD_letter_57
  simp only [ref_1, show ((1 : Int32) ≤ 0) = False from by decide, show ((1 : Int32) = 0) = False from by decide, show ((0 : Int32) ≤ 0) = True from by decide, if_false, if_true]
  rcases named hc a with ⟨k, k1, k2, k3, k4⟩ | ⟨k3, k4⟩
  · rw [k3, k4, Option.bind_some, Option.bind_some]
    simp only [show ((1 : Int32) = 0) = False from by decide, if_false]
    by_cases z : i < 0
    · rw [if_pos z, if_pos z]; exact bad
    · obtain ⟨j, j1, j2⟩ := nn_ex i z
      subst j2; subst k2
      rw [if_neg z, if_neg z]
      obtain ⟨ln, l1, l2⟩ := hc.nk.2.2 k
      unfold F_NM_letterAt B_NM_letterAt_25
      rw [xI_ix (by omega), if_pos (show decide (k < 48) = true by simp; omega), xI_cl (by omega), l2, show (x_wS R 387 1 0).2.1 394 k = xI ln from by rw [show (x_wS R 387 1 0).2.1 394 = M.2.1 7 from hc.nk.2.1]; exact l2]
      simp only [xI_le (a := ln) (b := j) (by omega) j1, show (decide (k < 48) = true) = True from by simp; omega, if_true]
      by_cases y : ln ≤ j
      · rw [if_pos y, if_pos y, Option.bind_some]; exact val _
      · rw [if_neg y, if_neg y, show (40 : Int32) = xI 40 from rfl, xI_mul, xI_mul, xI_add, xI_add, xI_ix (by omega), if_pos (show decide (k * 40 + j < 1920) = true by simp; omega), xI_ix (by omega), if_pos (show decide (40 * k + j < 1920) = true by simp; omega), xI_cl (by omega), xI_cl (by omega), Option.bind_some, show (x_wS R 387 1 0).2.1 393 = M.2.1 6 from hc.nk.1, Nat.mul_comm 40 k]
        exact val _
  · rw [k3, k4, Option.bind_some, Option.bind_some]
    simp only [if_true]
    exact bad
