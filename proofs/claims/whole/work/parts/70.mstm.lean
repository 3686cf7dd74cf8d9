/-! the statement that tells members -/
def DimR (M R : x_m) (d : Nat) : Prop := ∃ L c, 1 ≤ L ∧ L ≤ 4 ∧ c ≤ 1000 ∧ M.1 (9 + 13 * d) 0 = xI L ∧ R.2.1 389 d = xI L ∧ M.1 (9 + 13 * d) 1 = xI c ∧ R.2.1 390 d = xI c ∧ gRows (Vc M (9 + 13 * d)) L c ∧ VR M R d L c
theorem DimR_fr {M R M' R' : x_m} {d : Nat} {P P' : Nat → Nat → Prop} {Q Q' : Nat → Prop} (h : DimR M R d) (f : fr P Q M M') (g : fr P' Q' R R') (p0 : ¬ P (9 + 13 * d) 0) (p1 : ¬ P (9 + 13 * d) 1) (qv : ∀ a, qV d a → ¬ Q a) (r1 : ¬ Q' 389) (r2 : ¬ Q' 390) (r3 : ¬ Q' 391) : DimR M' R' d := by
  obtain ⟨L, c, a1, a2, a3, a4, a5, a6, a7, a8, a9⟩ := h
  refine ⟨L, c, a1, a2, a3, (f.1 _ _ p0).trans a4, (congrFun (g.2.1 _ r1) _).trans a5, (f.1 _ _ p1).trans a6, (congrFun (g.2.1 _ r2) _).trans a7, ?_, ?_⟩
  · refine gRows_congr a1 a8 (fun l i x y => ?_)
    unfold Vc
    exact (congrFun (f.2.1 _ (qv _ (by unfold qV; omega))) i).symm
  · intro l i x y
    rw [congrFun (f.2.1 _ (qv _ (by unfold qV; omega))) i, congrFun (g.2.1 _ r3) _]
    exact a9 l i x y
theorem ls_members {M R : x_m} {n D Ms : Nat} (hz : Zl M R n) (hd : Zd M R D Ms) (hdim : ∀ d, d < D → DimR M R d) {k s e : Nat} (he : e ≤ n) :
    (∃ d M' R' s' e' L c r', d < D ∧ 1 ≤ L ∧ L ≤ 4 ∧ M.1 (9 + 13 * d) 0 = xI L ∧ R.2.1 389 d = xI L ∧ M.1 (9 + 13 * d) 1 = xI c ∧ c < r' ∧ r' ≤ 1000 ∧ (F_LX_advance (ct M k s e)).bind F_CG_readMembers = some (1, ct (x_wS M' (9 + 13 * d) 1 (xI r')) 8 s' e') ∧ F_MD_member (rt R k s e) = some (rt (x_wA R' 390 d (xI r')) 8 s' e') ∧ Zl M' R' n ∧ fr pC (qV d) M M' ∧ fr pR qVr R R' ∧ kpV M M' d c ∧ kpVr R R' d c ∧ gRows (Vc M' (9 + 13 * d)) L r' ∧ VR M' R' d L r' ∧ e' ≤ n ∧ e < e') ∨
    (∃ mc mr d, d < 8 ∧ (F_LX_advance (ct M k s e)).bind F_CG_readMembers = some (0, mc) ∧ F_MD_member (rt R k s e) = some mr ∧ Flt mc mr ∧ fr pC (qV d) M mc ∧ fr pR qVr R mr ∧ (∀ c, c ≤ 1000 → (d < D → M.1 (9 + 13 * d) 1 = xI c) → kpV M mc d c ∧ kpVr R mr d c)) := by
  obtain ⟨M1, R1, mr, k1, s1, e1, h1, h2, h3, h4, h5, h6, h7, h8, h9⟩ := step2 hz (k := k) (s := s) he
  obtain ⟨d1, d2, d3, d4, d5, d6⟩ := Zd_fr hd h5 h6
  have hn := hz.1
  have hR : F_MD_member (rt R k s e) = lkR (xI 0) (fun m => m.1 387 13) (fun a w m => if w = 0 then some m else (if x_ix a 8 = true then B_MD_member_56 x_fu a (m.2.1 390 a.toNatClampNeg) 1 m else none)) mr := by
    unfold F_MD_member
    rw [h2]
    unfold lkR lkR.lkR2 B_MD_member_24 B_MD_member_35
    rfl
  have hC : (F_LX_advance (ct M k s e)).bind F_CG_readMembers = (F_NM_read (xI 0) (xI D) (ct M1 k1 s1 e1)).bind fun r16 => (if r16.1 = ((-1)) then some (0, r16.2) else (if x_ix r16.1 8 = true then B_CG_readMembers_42 x_fu (9 + 13 * r16.1.toNatClampNeg) (r16.2.1 (9 + 13 * r16.1.toNatClampNeg) 1) r16.2 else none)) := by
    rw [h1, Option.bind_some]
    unfold F_CG_readMembers
    rw [show (ct M1 k1 s1 e1).1 4 2 = xI D from d1]
    rfl
  obtain ⟨l1, l2⟩ := lkR_eq (fun a w m => if w = 0 then some m else (if x_ix a 8 = true then B_MD_member_56 x_fu a (m.2.1 390 a.toNatClampNeg) 1 m else none)) (first := 0) (cnt := D) hn h3 (Zl_5 h4) h7 (by omega) (fun m => m.1 387 13) d2
  rw [(Zl_nk h4).1, (Zl_nk h4).2.1, h4.2.2.2.2.1] at l1 l2
  rw [hC, hR]
  rcases F_NM_read_eq (Zl_c h4) h7 (first := 0) (cnt := D) (by omega) with ⟨j, b1, b2, b3, b4⟩ | ⟨b1, b2⟩
  · rw [b4, Option.bind_some, l1 j b1 b2 b3]
    simp only [show ((1 : Int32) = 0) = False from by decide, if_false]
    subst b2
    obtain ⟨eM, eR⟩ := h9 (by omega) (by omega)
    subst eM; subst eR
    obtain ⟨L, c, a1, a2, a3, a4, a5, a6, a7, a8, a9⟩ := hdim j b1
    rw [if_neg (xI_neg1 (by omega)), xI_ix (by omega), if_pos (show decide (j < 8) = true by simp; omega), if_pos (show decide (j < 8) = true by simp; omega), xI_cl (by omega)]
    rw [show (ct M1 3 s1 e1).1 (9 + 13 * j) 1 = xI c from (show (if 9 + 13 * j = 3 then _ else M1.1 (9 + 13 * j) 1) = xI c by rw [if_neg (by omega)]; exact a6), show (rt R1 3 s1 e1).2.1 390 j = xI c from a7]
    obtain ⟨t1, t2, t3, t4, t5, t6, t7⟩ := h7
    have := t5 (by omega)
    rcases ls_rows (d := j) (by omega) a1 a2 20001 M1 R1 3 s1 e1 c x_fu x_fu (by omega) h4 a4 a5 a3 t2 (by unfold x_fu; omega) (by unfold x_fu; omega) a8 a9 with ⟨M', R', s', e', r', v1, v2, v3, v4, v5, v6, v7, v8, v9, v10, v11, v12, v13⟩ | ⟨mc, mr, v1, v2, v3, v4, v5, v6, v7⟩
    · left
      exact ⟨j, M', R', s', e', L, c, r', b1, a1, a2, a4, a5, a6, v1, v2, v3, v4, v5, v6, v7, v8, v9, v10, v11, v12, by omega⟩
    · right
      refine ⟨mc, mr, j, by omega, v1, v2, v3, v4, v5, fun c' hc' hh => ?_⟩
      have ec := hh b1
      rw [a6, xI_eq (by omega) (by omega)] at ec
      subst ec
      exact ⟨v6, v7⟩
  · right
    obtain ⟨mr', a, y1, y2, y3, y4⟩ := l2 b1
    rw [b2, Option.bind_some, y1]
    simp only [if_true]
    have hp : 0 < mr'.1 387 5 := by rw [y2]; exact nmX_pos k1
    have f1 := fr_trans h5 (fr_trans (fr_ct M1 k1 s1 e1) (fr_cf _ (nmX k1) (xI s1)))
    have f2 := fr_trans h6 y4
    exact ⟨_, mr', 0, by omega, rfl, rfl, ⟨by rw [y2]; rfl, by rw [y3]; rfl, hp⟩, up1 f1, up1r f2, fun c _ _ => ⟨kpV_fr f1, kpVr_fr f2⟩⟩
