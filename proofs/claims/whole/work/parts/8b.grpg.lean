/-! group by .. -/
theorem isSign_bad {R mr : x_m} {k s e : Nat} (c : Int32) (h : RS R mr k s e) (hb : k = 1 ∨ k = 36) (hc : c ≠ 0) : F_MD_isSign c mr = some (0, mr) := by
  rcases h with ⟨z1, z2, _⟩ | ⟨_, e2, z⟩
  · omega
  · subst z
    unfold F_MD_isSign B_MD_isSign_20 B_MD_isSign_21
    rcases hb with z | z <;> subst z
    · rw [if_pos (show (rf (rt R 1 s e2) (kUn 1) (xI s)).1 387 9 = 3 from rfl), if_neg (show ¬ (rf (rt R 1 s e2) (kUn 1) (xI s)).1 387 12 = c from fun z => hc z.symm)]
      rfl
    · rw [if_neg (show ¬ (rf (rt R 36 s e2) (kUn 36) (xI s)).1 387 9 = 3 from (show ¬ (2 : Int32) = 3 by decide))]
      rfl
/-- groups as far as they are read -/
def GS (M R : x_m) (q r ng np ns : Nat) (f kd sz : Nat → Nat) : Prop := GQ M R q r ng ∧ R.1 r 6 = xI np ∧ np ≤ ng ∧ (∀ i, i < np → R.2.1 (r + 5) i = xI (kd i) ∧ R.2.1 (r + 6) i = xI (sz i) ∧ kd i ≤ 2 ∧ sz i ≤ 8) ∧ M.1 q 6 = xI ns ∧ 0 < ns ∧ ns ≤ 32 ∧ (∀ i, i < ns → M.2.1 (q + 5) i = xI (f i)) ∧ SPr f ns ng kd sz np
def pH (q a b : Nat) : Prop := a = 3 ∨ (a = q ∧ (b = 4 ∨ b = 6))
def qH (q a : Nat) : Prop := a = q + 4 ∨ a = q + 5
def pHr (r a b : Nat) : Prop := (a = 387 ∧ 5 ≤ b ∧ b ≤ 12) ∨ (a = r ∧ (b = 4 ∨ b = 6))
def qHr (r a : Nat) : Prop := a = r + 4 ∨ a = r + 5 ∨ a = r + 6
theorem upGH {q : Nat} {m m' : x_m} (h : fr (pG q) (qG q) m m') : fr (pH q) (qH q) m m' := fr_mono h (fun a b z => by unfold pG at z; unfold pH; omega) (fun a z => by unfold qG at z; unfold qH; omega)
theorem upGHr {r : Nat} {m m' : x_m} (h : fr (pGr r) (qGr r) m m') : fr (pHr r) (qHr r) m m' := fr_mono h (fun a b z => by unfold pGr at z; unfold pHr; omega) (fun a z => by unfold qGr at z; unfold qHr; omega)
theorem upSH {q : Nat} {m m' : x_m} (h : fr (pS q) (qS q) m m') : fr (pH q) (qH q) m m' := fr_mono h (fun a b z => by unfold pS at z; unfold pH; omega) (fun a z => by unfold qS at z; unfold qH; omega)
theorem upCH {q : Nat} {m m' : x_m} (h : fr pC q0 m m') : fr (pH q) (qH q) m m' := fr_mono h (fun _ _ z => Or.inl z) (fun _ z => z.elim)
theorem upRH {r : Nat} {m m' : x_m} (h : fr pR q0 m m') : fr (pHr r) (qHr r) m m' := fr_mono h (fun _ _ z => Or.inl z) (fun _ z => z.elim)
theorem upHQ {q : Nat} {m m' : x_m} (h : fr (pH q) (qH q) m m') : fr (pQ q) (qQ q) m m' := fr_mono h (fun a b z => by unfold pH at z; unfold pQ; omega) (fun a z => by unfold qH at z; unfold qQ; omega)
theorem upHQr {r : Nat} {m m' : x_m} (h : fr (pHr r) (qHr r) m m') : fr (pQr r) (qQr r) m m' := fr_mono h (fun a b z => by unfold pHr at z; unfold pQr; omega) (fun a z => by unfold qHr at z; unfold qQr; omega)
theorem fr_addP (m : x_m) (r np : Nat) (a b : Int32) : fr (pHr r) (qHr r) m (addP m r np a b) := fr_trans (fr_wA _ _ _ _ (by unfold qHr; omega)) (fr_trans (fr_wA _ _ _ _ (by unfold qHr; omega)) (fr_wS _ _ _ _ (by unfold pHr; omega)))
theorem addP_2 (m : x_m) (r np : Nat) (x y : Int32) (a i : Nat) : (addP m r np x y).2.1 a i = if a = r + 6 ∧ i = np then y else if a = r + 5 ∧ i = np then x else m.2.1 a i := rfl
theorem addP_1 (m : x_m) (r np : Nat) (x y : Int32) (a b : Nat) : (addP m r np x y).1 a b = if a = r ∧ b = 6 then xI (np + 1) else m.1 a b := rfl
theorem GS_tok {M R M' R' : x_m} {q r ng np ns : Nat} {f kd sz : Nat → Nat} (hq : q = 115 ∨ q = 251) (hr : r = 395 ∨ r = 409) (h : GS M R q r ng np ns f kd sz) (u : fr pC q0 M M') (v : fr pR q0 R R') : GS M' R' q r ng np ns f kd sz := by
  obtain ⟨a1, a2, a3, a4, a5, a6, a7, a8, a9⟩ := h
  refine ⟨GQ_fr hq hr a1 u v, (v.1 _ _ (by unfold pR; omega)).trans a2, a3, fun i hi => ?_, (u.1 _ _ (by unfold pC; omega)).trans a5, a6, a7, fun i hi => ?_, a9⟩
  · rw [v.2.1 _ id, v.2.1 _ id]; exact a4 i hi
  · rw [u.2.1 _ id]; exact a8 i hi
theorem gr70_0 (K : Int32 → Int32 → x_m → Option x_m) (l1 : Int32) (m : x_m) : B_MD_grouping_70 K l1 0 m = K l1 0 m := by
  unfold B_MD_grouping_70 B_MD_grouping_87 B_MD_grouping_88
  rw [if_pos rfl]
theorem gr52_f (g : Nat) (l1 s0 : Int32) (m : x_m) (h : m.1 387 5 ≠ 0) : B_MD_grouping_52 (B_MD_grouping_25 (g + 1)) l1 s0 m = some m := by
  unfold B_MD_grouping_52
  rw [F_MD_want_f m _ _ _ h, Option.bind_some]
  simp only [if_true]
  rw [gr70_0, B_MD_grouping_25, if_pos rfl]
theorem ls_groupsL {n D Ms q r gp : Nat} : ∀ (w : Nat) (M R : x_m) (k s e ng np ns cnt f g : Nat) (fs kd sz : Nat → Nat), mu n k e < w → k ≠ 0 → ZQ M R n D Ms q r → GS M R q r ng np ns fs kd sz → R.1 387 25 = xI gp → e ≤ n → cnt ≤ ng → w ≤ f → w < g →
    (∃ M' R' mr' k' s' e' e0' ng' np' ns' fs' kd' sz', B_QG_readGroups_25 f (xI gp) (xI cnt) (ct M k s e) = some (1, ct M' k' s' e') ∧ B_MD_grouping_25 g (xI ns) 1 (rt R k s e) = some mr' ∧ RS R' mr' k' s' e' ∧ TF n e0' k' s' e' ∧ ZQ M' R' n D Ms q r ∧ GS M' R' q r ng' np' ns' fs' kd' sz' ∧ fr (pH q) (qH q) M M' ∧ fr (pHr r) (qHr r) R R' ∧ mu n k' e' < mu n k e) ∨
    (∃ mc mr', B_QG_readGroups_25 f (xI gp) (xI cnt) (ct M k s e) = some (0, mc) ∧ B_MD_grouping_25 g (xI ns) 1 (rt R k s e) = some mr' ∧ Flt mc mr' ∧ fr (pQ q) (qQ q) M mc ∧ fr (pQr r) (qQr r) R mr') := by
  intro w
  induction w with
  | zero => intro M R k s e ng np ns cnt f g fs kd sz hw; exact absurd hw (Nat.not_lt_zero _)
  | succ w ih =>
    intro M R k s e ng np ns cnt f g fs kd sz hw hk0 hz hgs h25 he hcnt hf hg
    cases f with
    | zero => omega
    | succ f =>
    cases g with
    | zero => omega
    | succ g =>
    cases g with
    | zero => omega
    | succ g =>
    have hq := hz.2.2.2.2.2.1
    have hr := hz.2.2.2.2.2.2
    have ng8 := hgs.1.1
    obtain ⟨M1, R1, mr1, k1, s1, e1, h1, h2, h3, h4, h5, h6, h7, h8, h9⟩ := stepQ hz (k := k) (s := s) he
    have hgs1 := GS_tok hq hr hgs h5 h6
    have hlt := mu_step (n := n) (e := e) h7 hk0
    have h7' := h7
    obtain ⟨t1, t2, t3, t4, t5, t6, t7⟩ := h7
    have hC : B_QG_readGroups_25 (f + 1) (xI gp) (xI cnt) (ct M k s e) = B_QG_readGroups_66 (B_QG_readGroups_25 f) (xI gp) (xI cnt) (kRf k1) (bI (decide (gkk k1 ≠ 0))) (ct M1 k1 s1 e1) := by
      rw [B_QG_readGroups_25, if_neg (by show ¬ (xI 8 < _); rw [xI_lt (by omega) (by omega)]; omega), h1, Option.bind_some, show (ct M1 k1 s1 e1).2.2.1 3 1 = kRf k1 from rfl]
      simp only [kRf_kv t4, if_true, kRf_is (j := 24) t4 (by omega) (by omega), kRf_is (j := 25) t4 (by omega) (by omega)]
      unfold B_QG_readGroups_61 gkk
      by_cases a : k1 = 24
      · simp only [a, if_true]; rfl
      · by_cases b : k1 = 25
        · simp only [a, b, if_true, if_false]; rfl
        · simp only [a, b, if_false]; rfl
    have hR : B_MD_grouping_25 (g + 1 + 1) (xI ns) 1 (rt R k s e) = (F_MD_groupsOf mr1).bind fun r35 => (if 32 < (xI ns * r35.1) then B_MD_grouping_52 (B_MD_grouping_25 (g + 1)) (xI ns * r35.1) 0 r35.2 else B_MD_grouping_52 (B_MD_grouping_25 (g + 1)) (xI ns * r35.1) 1 r35.2) := by
      rw [B_MD_grouping_25, if_neg (show ¬ (1 : Int32) = 0 by decide), h2, Option.bind_some]
    rw [hC, hR]
    unfold B_QG_readGroups_66
    rcases ls_group h4 hgs1.1 hgs1.2.1 hgs1.2.2.1 h3 h7' with ⟨M2, R2, k2, s2, e2, ng2, c0, c0', c1, c2, c3, c4, c5, c6, c7, c8, c9, c10⟩ | ⟨mc, mr', c1, c2, c3, c4, c5⟩
    · have n8 := c4.1
      have gle := gkk_le k1
      have hbits : fr (pH q) (qH q) M M2 := fr_trans (upCH h5) (upGH c5)
      have hbitsr : fr (pHr r) (qHr r) R (addP R2 r np (xI (gkk k1)) (xI (ng2 - ng))) := fr_trans (upRH h6) (fr_trans (upGHr c6) (fr_addP _ _ _ _ _))
      have ret : (if gkk k1 = 0 then 1 else if gkk k1 = 1 then ng2 - ng + 1 else 2 ^ (ng2 - ng)) = chs (gkk k1) (ng2 - ng) := by
        unfold chs
        have : gkk k1 = 0 ∨ gkk k1 = 1 ∨ gkk k1 = 2 := by omega
        rcases this with z | z | z <;> rw [z] <;> simp
      rw [ret] at c2
      obtain ⟨b1, b2, b3, b4, b5, b6, b7, b8, b9⟩ := hgs1
      have m6 : M2.1 q 6 = xI ns := (c5.1 _ _ (by unfold pG; omega)).trans b5
      have mA : ∀ i, i < ns → M2.2.1 (q + 5) i = xI (fs i) := fun i hi => (congrFun (c5.2.1 _ (by unfold qG; omega)) i).trans (b8 i hi)
      have p3 : 2 ^ (ng2 - ng) ≤ 2 ^ 8 := Nat.pow_le_pow_right (by omega) (by omega)
      have p2 : 1 ≤ 2 ^ (ng2 - ng) := Nat.pow_pos (by omega)
      have chb : chs (gkk k1) (ng2 - ng) ≤ 256 ∧ 1 ≤ chs (gkk k1) (ng2 - ng) := by
        unfold chs
        split
        · omega
        · split <;> omega
      have cmul : chs (gkk k1) (ng2 - ng) * ns ≤ 256 * 32 := Nat.mul_le_mul chb.1 b7
      have hfb : ∀ i, i < ns → fs i < 2 ^ (ng2 - (ng2 - ng)) := by
        intro i hi
        rw [show ng2 - (ng2 - ng) = ng by omega]; exact b9.1 i hi
      obtain ⟨g1, g2⟩ := addGroup_spec (k := k1) (k' := k2) (s' := s2) (e' := e2) hq t4 (show ng2 - ng ≤ ng2 by omega) n8 b6 b7 c4.2.1 m6 mA hfb
      rw [c1, c2, Option.bind_some, Option.bind_some]
      simp only []
      rw [if_neg (fun z => by rw [show (0 : Int32) = xI 0 from rfl, xI_eq (by omega) (by omega)] at z; omega), show (ct M2 k2 s2 e2).2.2.1 114 4 = q from c3.2.2.2.1, if_pos (y_qb hq), xI_mul]
      simp only [show (32 < xI (ns * chs (gkk k1) (ng2 - ng))) = (32 < ns * chs (gkk k1) (ng2 - ng)) from xI_lt (a := 32) (by omega) (by rw [Nat.mul_comm]; omega)]
      have z5 : (addP R2 r np (xI (gkk k1)) (xI (ng2 - ng))).1 387 5 = 0 := by rw [addP_1, if_neg (by omega)]; exact Zl_5 c3.1
      have z25 : (addP R2 r np (xI (gkk k1)) (xI (ng2 - ng))).1 387 25 = xI gp := by
        rw [addP_1, if_neg (by omega), c6.1 _ _ (by unfold pGr; omega), h6.1 _ _ (by unfold pR; omega)]; exact h25
      by_cases big : 32 < chs (gkk k1) (ng2 - ng) * ns
      · right
        rw [g1 big, Option.bind_some, if_pos (show 32 < ns * chs (gkk k1) (ng2 - ng) by rw [Nat.mul_comm]; exact big)]
        simp only [if_true]
        unfold B_MD_grouping_52
        rw [F_MD_want_0 (rt (addP R2 r np (xI (gkk k1)) (xI (ng2 - ng))) k2 s2 e2) 7 _ z5 (by decide), Option.bind_some]
        simp only [if_true]
        rw [gr70_0, B_MD_grouping_25, if_pos rfl, show (rt (addP R2 r np (xI (gkk k1)) (xI (ng2 - ng))) k2 s2 e2).1 387 25 = xI gp from z25]
        exact ⟨_, _, rfl, rfl, Flt_cr _ _ _ _ (by decide), fr_trans (upHQ hbits) (upq (fr_trans (fr_ct _ _ _ _) (fr_cf _ _ _))), fr_trans (upHQr hbitsr) (upqr (fr_trans (fr_rt _ _ _ _) (fr_rf _ _ _)))⟩
      · obtain ⟨M3, d1, d2, d3, d4⟩ := g2 (by omega)
        rw [d1, Option.bind_some, if_neg (show ¬ 32 < ns * chs (gkk k1) (ng2 - ng) by rw [Nat.mul_comm]; exact big)]
        simp only [show ((1 : Int32) = 0) = False from by decide, if_false]
        unfold B_MD_grouping_52
        rw [F_MD_want_1 (rt (addP R2 r np (xI (gkk k1)) (xI (ng2 - ng))) k2 s2 e2) 7 _ z5, Option.bind_some]
        simp only [show ((1 : Int32) = 0) = False from by decide, if_false]
        have zz : ZQ M3 (addP R2 r np (xI (gkk k1)) (xI (ng2 - ng))) n D Ms q r := ZQ_fr c3 (upHQ (upSH d4)) (upHQr (fr_addP _ _ _ _ _)) (Fz_Sr (Fz_Ar (Fz_Ar (Fz_f (Zl_f c3.1) d4 (by unfold pS; omega) (by unfold pS; omega)))) (by omega))
        have spz := SPr_step (z := ng2 - ng) (kk := gkk k1) b6 (by omega) gle (fun z => by have := c7 z; omega) b9
        rw [show ng + (ng2 - ng) = ng2 by omega] at spz
        have gs3 : GS M3 (addP R2 r np (xI (gkk k1)) (xI (ng2 - ng))) q r ng2 (np + 1) (chs (gkk k1) (ng2 - ng) * ns) (setF fs ns ng (gkk k1) (ng2 - ng)) (fun i => if i = np then gkk k1 else kd i) (fun i => if i = np then ng2 - ng else sz i) := by
          refine ⟨⟨n8, (d4.1 _ _ (by unfold pS; omega)).trans c4.2.1, by rw [addP_1, if_neg (by omega)]; exact c4.2.2.1, fun i hi => ?_⟩, by rw [addP_1, if_pos ⟨rfl, rfl⟩], by omega, fun i hi => ?_, d2, ?_, by omega, ?_, spz⟩
          · rw [d4.2.1 _ (by unfold qS; omega), addP_2, if_neg (by omega), if_neg (by omega)]; exact c4.2.2.2 i hi
          · rw [addP_2, addP_2]
            by_cases ei : i = np
            · subst ei
              rw [if_neg (by omega), if_pos ⟨rfl, rfl⟩, if_pos ⟨rfl, rfl⟩]
              simp only [if_true]
              exact ⟨by trivial, by trivial, gle, by omega⟩
            · rw [if_neg (by omega), if_neg (by omega), if_neg (by omega), if_neg (by omega)]
              simp only [if_neg ei]
              rw [c6.2.1 _ (by unfold qGr; omega), c6.2.1 _ (by unfold qGr; omega)]
              exact b4 i (by omega)
          · exact Nat.mul_pos chb.2 b6
          · intro x hx
            rw [d3 x hx, show ng2 - (ng2 - ng) = ng by omega]
        have hbits3 : fr (pH q) (qH q) M M3 := fr_trans hbits (upSH d4)
        rw [Nat.mul_comm ns]
        generalize addP R2 r np (xI (gkk k1)) (xI (ng2 - ng)) = R3 at *
        obtain ⟨M4, R4, mr4, k4, s4, e4, i1, i2, i3, i4, i5, i6, i7, i8, i9⟩ := stepQ zz (k := k2) (s := s2) c8
        have i7' := i7
        obtain ⟨u1, u2, u3, u4, u5, u6, u7⟩ := i7
        have hlt4 := mu_step (n := n) (e := e2) i7' c10
        rw [i1, i2, Option.bind_some, Option.bind_some, show (ct M4 k4 s4 e4).2.2.1 3 1 = kRf k4 from rfl, if_pos (kRf_kv u4)]
        simp only [kRf_is (j := 7) u4 (by omega) (by omega)]
        unfold B_MD_grouping_70 B_MD_grouping_87 B_MD_grouping_88
        rw [if_neg (show ¬ (1 : Int32) = 0 by decide)]
        have done : k4 ≠ 7 → F_MD_isSign 44 mr4 = some (0, mr4) := by
          intro k7
          by_cases hb : k4 = 1 ∨ k4 = 36
          · exact isSign_bad 44 i3 hb (by decide)
          · have x1 : k4 ≠ 1 := fun w => hb (Or.inl w)
            have x2 : k4 ≠ 36 := fun w => hb (Or.inr w)
            have eq := RS_good i3 x1 x2
            subst eq
            have := F_MD_isSign_eq R4 (s := s4) (e := e4) u4 x1 x2 (j := 7) (by omega) (by omega)
            rw [decide_eq_false k7] at this
            exact this
        by_cases k7 : k4 = 7
        · subst k7
          have eq := RS_good i3 (by omega) (by omega)
          subst eq
          obtain ⟨eM, eR⟩ := i9 (by omega) (by omega)
          subst eM; subst eR
          have is := F_MD_isSign_eq R4 (s := s4) (e := e4) u4 (show 7 ≠ 1 by omega) (by omega) (j := 7) (by omega) (by omega)
          rw [if_pos rfl, show F_MD_isSign 44 (rt R4 7 s4 e4) = _ from is, Option.bind_some, show bI (decide (7 = 7)) = 1 from rfl]
          simp only [show ((1 : Int32) = 0) = False from by decide, if_false]
          rw [xI_add1]
          rcases ih M4 R4 7 s4 e4 ng2 (np + 1) (chs (gkk k1) (ng2 - ng) * ns) (cnt + 1) f (g + 1) _ _ _ (by omega) (by omega) zz gs3 z25 u2 (by omega) (by omega) (by omega) with ⟨M', R', mr', k', s', e', e0', ng', np', ns', fs', kd', sz', v1, v2, v3, v4, v5, v6, v7, v8, v9⟩ | ⟨mc, mr', v1, v2, v3, v4, v5⟩
          · left
            exact ⟨M', R', mr', k', s', e', e0', ng', np', ns', fs', kd', sz', v1, v2, v3, v4, v5, v6, fr_trans hbits3 v7, fr_trans hbitsr v8, by omega⟩
          · right
            exact ⟨mc, mr', v1, v2, v3, fr_trans (upHQ hbits3) v4, fr_trans (upHQr hbitsr) v5⟩
        · left
          rw [if_neg k7, done k7, Option.bind_some]
          simp only [if_true]
          rw [B_MD_grouping_25, if_pos rfl]
          exact ⟨M4, R4, mr4, k4, s4, e4, e2, ng2, np + 1, _, _, _, _, rfl, rfl, i3, i7', i4, GS_tok hq hr gs3 i5 i6, fr_trans hbits3 (upCH i5), fr_trans hbitsr (upRH i6), by omega⟩
    · right
      rw [c1, c2, Option.bind_some, Option.bind_some]
      simp only [if_true]
      have n32 := hgs.2.2.2.2.2.2.1
      rw [show xI ns * 1 = xI ns from by rw [show (1 : Int32) = xI 1 from rfl, xI_mul, Nat.mul_one], if_neg (by show ¬ (xI 32 < _); rw [xI_lt (by omega) (by omega)]; omega), gr52_f g _ _ _ (ne_pos c3.2.2)]
      exact ⟨mc, mr', rfl, rfl, c3, fr_trans (upq h5) c4, fr_trans (upqr h6) c5⟩
