/-! rank in step -/
theorem cnf_low {V S : Nat → Int32} {c k t : Nat} {x : Int32} (hs : ∀ i j, i < j → j < k → S i < S j) (hset : ∀ v, (∃ i, i < k ∧ S i = v) ↔ ∃ i, i < c ∧ V i = v) (ht : t ≤ k) (h1 : ∀ i, i < t → S i < x) (h2 : ∀ i, t ≤ i → i < k → x ≤ S i) : cnf (fun i => frs V i && decide (V i < x)) c 0 = t := by
  rw [← cnf_srt hs hset t ht]
  refine cnf_congr c 0 (fun j _ hj => ?_)
  show (frs V j && decide (V j < x)) = (frs V j && mem8 S (V j) t 0)
  congr 1
  rw [Bool.eq_iff_iff, decide_eq_true_iff, mem8_iff]
  obtain ⟨s, s1, s2⟩ := (hset (V j)).mpr ⟨j, by omega, rfl⟩
  refine ⟨fun z => ⟨s, by omega, ?_, s2⟩, fun ⟨y, _, y2, y3⟩ => by rw [← y3]; exact h1 y (by omega)⟩
  rcases Nat.lt_or_ge s t with u | u
  · omega
  · have := h2 s u s1
    rw [s2] at this
    exact absurd (Int32.lt_of_lt_of_le z this) (Int32.lt_irrefl)
theorem cnf_all {V S : Nat → Int32} {c k : Nat} (hs : ∀ i j, i < j → j < k → S i < S j) (hset : ∀ v, (∃ i, i < k ∧ S i = v) ↔ ∃ i, i < c ∧ V i = v) : cnf (fun i => frs V i && true) c 0 = k := by
  rw [← cnf_srt hs hset k (Nat.le_refl _)]
  refine cnf_congr c 0 (fun j _ hj => ?_)
  show (frs V j && true) = (frs V j && mem8 S (V j) k 0)
  congr 1
  obtain ⟨s, s1, s2⟩ := (hset (V j)).mpr ⟨j, by omega, rfl⟩
  exact ((mem8_iff _ _ _ _).mpr ⟨s, by omega, by omega, s2⟩).symm
theorem cnf_lowc {V S : Nat → Int32} {c k : Nat} (hs : ∀ i j, i < j → j < k → S i < S j) (hset : ∀ v, (∃ i, i < k ∧ S i = v) ↔ ∃ i, i < c ∧ V i = v) : k ≤ c := by
  rw [← cnf_all hs hset]
  exact cnf_le _ _ _
theorem LO_rank {M R : x_m} {n : Nat} (h : SR M R n) (a l p : Int32) : LO n M R (F_LW_rank a l p M) (F_MD_rank a l p R) := by
  have h' := h
  obtain ⟨D, Ms, q, q2, r, r2, hc, a1, a2, a3, a4, a5⟩ := h'
  have bad : LO n M R ((some ((Sum.inr true : Int32 ⊕ Bool), M)).bind fun r => x_w2 r) (some (0, x_wS R 387 1 1)) := LO_x2 true _ rfl rfl h
  have badS : LO n M R ((some ((Sum.inr false : Int32 ⊕ Bool), M)).bind fun r => x_w2 r) (some (0, x_wS R 387 1 2)) := LO_x2 false _ rfl rfl h
  have val : ∀ v : Int32, LO n M R ((some ((Sum.inl v : Int32 ⊕ Bool), M)).bind fun r => x_w2 r) (some (v, x_wS R 387 1 0)) := fun v => LO_v2 (n' := n) v rfl rfl h (FC_refl _) (FR_refl _)
  unfold F_LW_rank F_QR_rank F_MD_rank B_QR_rank_33 B_QR_rank_29 B_QR_rank_34 B_MD_rank_41 B_MD_rank_37 B_MD_rank_42 B_MD_rank_66
  simp only [ref_1, show ((1 : Int32) ≤ 0) = False from by decide, show ((2 : Int32) ≤ 0) = False from by decide, show ((0 : Int32) ≤ 0) = True from by decide, show ((1 : Int32) = 0) = False from by decide, if_false, if_true]
  rcases hasD hc a with ⟨d, d1, d8, d2, d3, d4⟩ | ⟨_, d3, d4⟩
  · obtain ⟨L, c, ρ, ⟨b1, b2, b3, b4, b5, b6, b7⟩, v1, v2⟩ := ValD_of hc d1
    subst d2
    have iv := isV d8 b2 b3 b5 b7 d4 l p
    rw [d4, Option.bind_some]
    simp only [show ((1 : Int32) = 0) = False from by decide, if_false, iv]
    rw [xI_ix (by omega), xI_cl (by omega), b5]
    simp only [show (decide (d < 8) = true) = True from by simp; omega, if_true, Option.bind_some]
    rcases hasL d8 b2 b4 d3 l with ⟨l', l1, l2, l3⟩ | ⟨l1, l3⟩
    · subst l2
      rw [l3, Option.bind_some, if_neg (xI_not_neg (j := l') (by omega)), if_neg (xI_not_neg (j := l') (by omega))]
      simp only [xI_le (a := L) (b := l') (by omega) (by omega), if_neg (show ¬ L ≤ l' by omega), show ((1 : Int32) = 0) = False from by decide, if_false]
      have fin : (hp : p = -1 ∨ ∃ p', p' < c ∧ p = xI p') → LO n M R ((if M.1 4 4 = 0 then some ((Sum.inr false : Int32 ⊕ Bool), M) else if p = -1 then ((F_DM_distinctAt (9 + 13 * d) (xI l') M).bind fun r60 => some (Sum.inl r60.1, r60.2)) else ((F_DM_valueAt (9 + 13 * d) (xI l') p M).bind fun r71 => ((F_DM_lowerThan (9 + 13 * d) (xI l') r71.1 r71.2).bind fun r74 => some (Sum.inl r74.1, r74.2)))).bind fun r => x_w2 r) (if R.1 387 2 = 0 then some (0, x_wS R 387 1 2) else B_MD_rank_84 x_fu (xI d) (xI l') p 0 0 (x_wS R 387 1 0)) := by
        intro hp
        by_cases ho : M.1 4 4 = 0
        · rw [if_pos ho, if_pos (New_of hc ho)]
          exact badS
        · obtain ⟨o1, o2, o3⟩ := OpC_of hc ho
          rw [if_neg ho, if_neg (show ¬ R.1 387 2 = 0 by rw [o1]; decide)]
          obtain ⟨L2, c2, ρ2, K, pk, ⟨e1, e2, e3, e4, e5, e6, e7, e8⟩, f1, f2, f3, f4, f5, f6, f7⟩ := o3 d d1
          have cc : c2 = c := by
            have := e7.symm.trans b6
            rwa [xI_eq (by omega) (by omega)] at this
          have LL : L2 = L := by
            have := e5.symm.trans b4
            rwa [xI_eq (by omega) (by omega)] at this
          subst cc; subst LL
          have S := Srt_of (f4 l' l1)
          have ref := p_84 (m := x_wS R 387 1 0) (d := d) (l := l') (c := c2) (p := p) d8 (by omega) b3 b7 (by
            rcases hp with z | ⟨p', z1, z2⟩
            · left; rw [z]; decide
            · exact Or.inr ⟨p', by omega, z2⟩) c2 0 x_fu 0 (by omega) (by unfold x_fu; omega)
          rw [show xI 0 = 0 from rfl] at ref
          rw [ref, Nat.zero_add]
          rcases hp with z | ⟨p', z1, z2⟩
          · rw [if_pos z]
            unfold F_DM_distinctAt
            rw [xI_ix (by omega), if_pos (show decide (l' < 4) = true by simp; omega), xI_cl (by omega), S.2.1, Option.bind_some]
            have : cnf (fun i => frs (vl (x_wS R 387 1 0) d l') i && rkc (x_wS R 387 1 0) d l' p i) c2 0 = K l' := by
              rw [← cnf_all (V := vl (x_wS R 387 1 0) d l') S.2.2.1 S.2.2.2]
              refine cnf_congr c2 0 (fun j _ _ => ?_)
              show (_ && (decide (p < 0) || _)) = _
              rw [z, show decide ((-1 : Int32) < 0) = true from by decide, Bool.true_or]
            rw [this]
            exact val _
          · rw [if_neg (fun y => by rw [z2] at y; exact xI_not_neg (j := p') (by omega) (by rw [y]; decide)), z2, valAt b2 b3 v1 v2 l1 z1, Option.bind_some]
            simp only []
            obtain ⟨t, t1, t2, t3, t4⟩ := low_spec S (by omega) (R.2.1 391 (4000 * d + 4 * p' + l'))
            rw [t2, Option.bind_some]
            have : cnf (fun i => frs (vl (x_wS R 387 1 0) d l') i && rkc (x_wS R 387 1 0) d l' (xI p') i) c2 0 = t := by
              rw [← cnf_low (V := vl (x_wS R 387 1 0) d l') S.2.2.1 S.2.2.2 t1 t3 t4]
              refine cnf_congr c2 0 (fun j _ _ => ?_)
              show (_ && (decide (xI p' < 0) || decide (_ < vl (x_wS R 387 1 0) d l' (xI p').toNatClampNeg))) = _
              rw [decide_eq_false (xI_not_neg (by omega)), Bool.false_or, xI_cl (by omega)]
              rfl
            rw [this]
            exact val _
      by_cases pm : p = -1
      · simp only [if_pos pm] at fin ⊢
        exact fin (Or.inl pm)
      · simp only [if_neg pm] at fin ⊢
        rcases hasM d8 b3 b6 d3 p with ⟨p', p1, p2, p3⟩ | ⟨p1, p3⟩
        · rw [p3, Option.bind_some]
          simp only [show ((1 : Int32) = 0) = False from by decide, if_false]
          have : (if p < 0 then (0 : Int32) else if xI c ≤ p then 0 else 1) = 1 := by
            rw [p2, if_neg (xI_not_neg (by omega)), if_neg (by rw [xI_le (by omega) (by omega)]; omega)]
          rw [this]
          simp only [show ((1 : Int32) = 0) = False from by decide, if_false]
          exact fin (Or.inr ⟨p', p1, p2⟩)
        · rw [p3, Option.bind_some]
          have : (if p < 0 then (0 : Int32) else if xI c ≤ p then 0 else 1) = 0 := by
            rcases p1 with z | ⟨p', y1, y2, y3⟩
            · rw [if_pos z]
            · subst y3
              rw [if_neg (xI_not_neg y2), if_pos (by rw [xI_le (by omega) y2]; exact y1)]
          rw [this]
          simp only [if_true]
          exact bad
    · rw [l3, Option.bind_some]
      simp only [if_true]
      rcases l1 with z | ⟨p', y1, y2, y3⟩
      · rw [if_pos z]; exact bad
      · subst y3
        rw [if_neg (xI_not_neg y2), if_pos (show xI L ≤ xI p' by rw [xI_le (by omega) y2]; exact y1)]
        exact bad
  · rw [hasL_no (R := R) a l d3, d4, Option.bind_some, Option.bind_some]
    simp only [if_true]
    exact bad
