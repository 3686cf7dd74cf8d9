/-! a group whole -/
def gkk (k : Nat) : Nat := if k = 24 then 1 else if k = 25 then 2 else 0
theorem gkk_le (k : Nat) : gkk k ≤ 2 := by unfold gkk; split; omega; split <;> omega
theorem F_MD_groupsOf_f {m : x_m} {r : Nat} (h : 0 < m.1 387 5) (hr1 : m.2.2.1 387 22 = r) (hr : r = 395 ∨ r = 409) : F_MD_groupsOf m = some (1, m) := by
  have e35 : ∀ l1 s0, B_MD_groupsOf_35 l1 s0 m = some (1, m) := by
    intro l1 s0
    unfold B_MD_groupsOf_35
    rw [F_MD_groupColumn_f (ne_pos h) hr1 hr, F_MD_needSign_f m _ h, Option.bind_some, Option.bind_some, g118_f _ _ _ h]
    simp only []
    rw [show x_fu = 199999 + 1 from rfl, g54_f 199999 _ _ _ h]
    split <;> rfl
  obtain ⟨b1, e1⟩ := F_MD_isWord_any 7 m
  obtain ⟨b2, e2⟩ := F_MD_isWord_any 8 m
  unfold F_MD_groupsOf
  rw [hr1, if_pos (y_mq hr), e1, Option.bind_some]
  simp only [e2, Option.bind_some, e35]
  repeat' split
  all_goals rfl
theorem F_MD_groupsOf_eq {R : x_m} {r k s e : Nat} (hr1 : R.2.2.1 387 22 = r) (hr : r = 395 ∨ r = 409) (hk : k ≤ 36) (h1 : k ≠ 1) (h36 : k ≠ 36) : F_MD_groupsOf (rt R k s e) = B_MD_groupsOf_35 ((rt R k s e).1 r 4) (xI (gkk k)) (rt R k s e) := by
  have w7 : F_MD_isWord 7 (rt R k s e) = _ := F_MD_isWord_eq R (s := s) (e := e) hk h1 h36 (w := 7) (by omega)
  have w8 : F_MD_isWord 8 (rt R k s e) = _ := F_MD_isWord_eq R (s := s) (e := e) hk h1 h36 (w := 8) (by omega)
  unfold F_MD_groupsOf gkk
  rw [show (rt R k s e).2.2.1 387 22 = r from hr1, if_pos (y_mq hr), w7, Option.bind_some]
  simp only [w8, Option.bind_some, bI_0, decide_eq_false_iff_not, Nat.reduceAdd]
  by_cases a : k = 24
  · simp only [a, not_true, if_false, if_true, show xI 1 = 1 from rfl]
  · by_cases b : k = 25
    · simp only [b, show (25 = 24) = False from by simp, not_true, not_false_iff, if_false, if_true, show xI 2 = 2 from rfl]
    · simp only [a, b, not_false_iff, if_true, if_false, show xI 0 = 0 from rfl]
theorem ls_group {M R mr : x_m} {n D Ms q r e0 k s e ng np : Nat} (hz : ZQ M R n D Ms q r) (hg : GQ M R q r ng) (hp6 : R.1 r 6 = xI np) (hnp : np ≤ ng) (hs : RS R mr k s e) (ht : TF n e0 k s e) :
    (∃ M' R' k' s' e' ng', ng < ng' ∧ k ≠ 0 ∧ F_QG_readGroup (bI (decide (gkk k ≠ 0))) (ct M k s e) = some (xI (ng' - ng), ct M' k' s' e') ∧ F_MD_groupsOf mr = some (xI (if gkk k = 0 then 1 else if gkk k = 1 then ng' - ng + 1 else 2 ^ (ng' - ng)), rt (addP R' r np (xI (gkk k)) (xI (ng' - ng))) k' s' e') ∧ ZQ M' R' n D Ms q r ∧ GQ M' R' q r ng' ∧ fr (pG q) (qG q) M M' ∧ fr (pGr r) (qGr r) R R' ∧ (gkk k = 0 → ng' = ng + 1) ∧ e' ≤ n ∧ mu n k' e' < mu n k e ∧ k' ≠ 0) ∨
    (∃ mc mr', F_QG_readGroup (bI (decide (gkk k ≠ 0))) (ct M k s e) = some (0, mc) ∧ F_MD_groupsOf mr = some (1, mr') ∧ Flt mc mr' ∧ fr (pQ q) (qQ q) M mc ∧ fr (pQr r) (qQr r) R mr') := by
  have hq := hz.2.2.2.2.2.1
  have hr := hz.2.2.2.2.2.2
  have hq1 := hz.2.2.2.1
  have hr1 := hz.2.2.2.2.1
  have h5 := Zl_5 hz.1
  have n8 := hg.1
  have hn := hz.1.1
  have ht' := ht
  obtain ⟨t1, t2, t3, t4, t5, t6, t7⟩ := ht
  have gle := gkk_le k
  by_cases k0 : gkk k = 0
  · -- a column alone
    have hC : F_QG_readGroup (bI (decide (gkk k ≠ 0))) (ct M k s e) = B_QG_readGroup_60 (B_QG_readGroup_28 199999) 0 (xI 1) (xI s) (bI (decide (ng = 8))) (ct M k s e) := by
      unfold F_QG_readGroup B_QG_readGroup_26
      rw [k0, decide_eq_false (fun z => z rfl), show bI false = 0 from rfl, if_pos rfl, show x_fu = 199999 + 1 from rfl, show (1 : Int32) = xI 1 from rfl, rg28 199999 0 hq1 hq hg.2.1 n8 (by omega)]
    rw [hC]
    rcases ls_gone (sz := 1) (B_QG_readGroup_28 199999) 0 hz hg hs ht' with ⟨c, s', e', c1, ck, c2, c3, c4, c5, c6, c7⟩ | ⟨mc, mr', c1, c2, c3, c4, c5⟩
    · left
      have g1 : k ≠ 1 := by omega
      have g2 : k ≠ 36 := by omega
      have eq := RS_good hs g1 g2
      subst eq
      rw [c2, if_pos rfl, F_MD_groupsOf_eq hr1 hr t4 g1 g2, k0]
      unfold B_MD_groupsOf_35
      rw [if_pos (show xI 0 = 0 from rfl), c3, Option.bind_some, show (rt R k s e).1 r 4 = xI ng from (show (if r = 387 then _ else R.1 r 4) = xI ng by rw [if_neg (by omega)]; exact hg.2.2.1)]
      have rr : ∀ b, (rt (addG R r ng (xI c)) 3 s' e').1 r b = (addG R r ng (xI c)).1 r b := by
        intro b
        show (if r = 387 then _ else (addG R r ng (xI c)).1 r b) = _
        rw [if_neg (by omega)]
      rw [g118_eq (m := rt (addG R r ng (xI c)) 3 s' e') (ng := ng + 1) (np := np) 0 (Zl_5 c4.1) c4.2.2.2.2.1 hr ((rr 4).trans c5.2.2.1) ((rr 6).trans (by rw [addG_1, if_neg (by omega)]; exact hp6)) (by omega) (by omega) (by omega) c5.1, addP_rt _ _ _ _ hr, show ng + 1 - ng = 1 by omega]
      refine ⟨addG M q ng (xI c), addG R r ng (xI c), 3, s', e', ng + 1, by omega, by omega, ?_, ?_, c4, c5, fr_addG _ _ _ _, fr_addGr _ _ _ _, fun _ => rfl, c6, ?_, by omega⟩
      · rw [show ng + 1 - ng = 1 by omega]
      · rw [show ng + 1 - ng = 1 by omega]
      · unfold mu
        rw [if_neg (by omega), if_neg (by omega)]; omega
    · right
      rw [c1]
      refine ⟨mc, mr', rfl, ?_, c3, c4, c5⟩
      by_cases hb : k = 1 ∨ k = 36
      · obtain ⟨b1, b2, b3⟩ := RS_bad hs hb
        have hp : 0 < mr.1 387 5 := by rw [b1]; exact kUn_pos k
        have rq : mr.2.2.1 387 22 = r := (b3.2.2.1 _ _ (by omega)).trans hr1
        rw [F_MD_groupColumn_f (ne_pos hp) rq hr] at c2
        injection c2 with c2
        subst c2
        exact F_MD_groupsOf_f hp rq hr
      · have g1 : k ≠ 1 := fun w => hb (Or.inl w)
        have g2 : k ≠ 36 := fun w => hb (Or.inr w)
        have eq := RS_good hs g1 g2
        subst eq
        rw [F_MD_groupsOf_eq hr1 hr t4 g1 g2, k0]
        unfold B_MD_groupsOf_35
        rw [if_pos (show xI 0 = 0 from rfl), c2, Option.bind_some, g118_f _ _ _ c3.2.2]
  · -- rollup or cube
    have g1 : k ≠ 1 := by intro z; subst z; exact k0 rfl
    have g2 : k ≠ 36 := by intro z; subst z; exact k0 rfl
    have kn0 : k ≠ 0 := by intro z; subst z; exact k0 rfl
    have eq := RS_good hs g1 g2
    subst eq
    rw [F_MD_groupsOf_eq hr1 hr t4 g1 g2, show (rt R k s e).1 r 4 = xI ng from (show (if r = 387 then _ else R.1 r 4) = xI ng by rw [if_neg (by omega)]; exact hg.2.2.1)]
    unfold B_MD_groupsOf_35 F_QG_readGroup
    rw [decide_eq_true k0, show bI true = 1 from rfl, if_neg (show ¬ (1 : Int32) = 0 by decide), if_neg (fun z => k0 (by rw [show (0 : Int32) = xI 0 from rfl, xI_eq (by omega) (by omega)] at z; exact z))]
    rcases ls_next hz.1 (k := k) (s := s) (e := e) (j := 5) t2 (by omega) (by omega) with ⟨s1, e1, c1, c2, c3, c4, c5, c6⟩ | ⟨mc, mr2, c1, c2, c3, c4, c5⟩
    · rw [c1, Option.bind_some, show F_MD_needSign 40 (rt R k s e) = _ from c2, Option.bind_some]
      simp only [show ((1 : Int32) = 0) = False from by decide, if_false]
      have hC : ((F_LX_advance (ct M 5 s1 e1)).bind fun r23 => B_QG_readGroup_26 1 r23) = (F_LX_advance (ct M 5 s1 e1)).bind (B_QG_readGroup_28 x_fu 1 (xI 1)) := rfl
      rw [hC]
      have mg := mu_ge n 5 e1
      rcases ls_groupL (xI ng) (xI (gkk k)) (mu n 5 e1 + 1) M R 5 s1 e1 ng 1 x_fu x_fu (by omega) (by omega) hz hg c4 (by omega) (by omega) (by unfold x_fu; omega) (by unfold x_fu; omega) with ⟨M', R', s', e', ng', sz', g', v1, v2, v3, v4, v5, v6, v7, v8, v9, v10⟩ | ⟨mc, mr, v1, v2, v3, v4, v5⟩
      · left
        have esz : sz' = ng' - ng := by omega
        have n8' := v4.1
        have rr : ∀ b, (rt R' 6 s' e').1 r b = R'.1 r b := by
          intro b
          show (if r = 387 then _ else R'.1 r b) = _
          rw [if_neg (by omega)]
        have hmu : mu n 6 e' < mu n k e := by
          have : mu n 5 e1 ≤ mu n k e := by
            unfold mu; rw [if_neg (by omega), if_neg kn0]; omega
          omega
        refine ⟨M', R', 6, s', e', ng', by omega, kn0, by rw [v1, esz], ?_, v3, v4, v7, v8, fun z => absurd z k0, v9, hmu, by omega⟩
        rw [v2, B_MD_groupsOf_54, if_pos rfl, g118_eq (gkk k) (show (rt R' 6 s' e').1 387 5 = 0 from Zl_5 v3.1) v3.2.2.2.2.1 hr ((rr 4).trans v4.2.2.1) ((rr 6).trans ((v8.1 _ _ (by unfold pGr; omega)).trans hp6)) (by omega) (by omega) gle n8', addP_rt _ _ _ _ hr]
      · right
        rw [v1, v2]
        exact ⟨mc, mr, rfl, rfl, v3, v4, v5⟩
    · right
      rw [c1, Option.bind_some, show F_MD_needSign 40 (rt R k s e) = _ from c2, Option.bind_some]
      simp only [if_true]
      rw [show x_fu = 199999 + 1 from rfl, g54_f 199999 _ _ _ c3.2.2]
      exact ⟨mc, mr2, rfl, rfl, c3, upq c4, upqr c5⟩
