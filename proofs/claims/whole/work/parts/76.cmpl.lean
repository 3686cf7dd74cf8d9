theorem ct_o (M : x_m) (k s e : Nat) {a : Nat} (b : Nat) (h : a ≠ 3) : (ct M k s e).1 a b = M.1 a b := (fr_ct M k s e).1 a b h
theorem ls_readList {M R : x_m} {n D Ms q r i k s e : Nat} (hi : i < 60) (hz : ZQ M R n D Ms q r) (h0 : M.1 (q + 16 + 2 * i) 4 = 0) (he : e ≤ n) :
    (∃ M' R' s' e' c', 1 ≤ c' ∧ c' ≤ 40 ∧ F_QG_readList (q + 16 + 2 * i) (ct M k s e) = some (1, ct M' 6 s' e') ∧ F_MD_list (xI i) (rt R k s e) = some (rt (x_wA R' (r + 11) i (xI c')) 6 s' e') ∧ ZQ M' R' n D Ms q r ∧ M'.1 (q + 16 + 2 * i) 4 = xI c' ∧ (∀ j, j < c' → M'.2.1 (q + 16 + 2 * i + 1) j = R'.2.1 (r + 13) (40 * i + j)) ∧ fr (pL (q + 16 + 2 * i)) (qP (q + 16 + 2 * i)) M M' ∧ fr pR (qL r) R R' ∧ kpN R R' r i ∧ e' ≤ n ∧ e < e') ∨
    (∃ mc mr, F_QG_readList (q + 16 + 2 * i) (ct M k s e) = some (0, mc) ∧ F_MD_list (xI i) (rt R k s e) = some mr ∧ Flt mc mr ∧ fr (pP (q + 16 + 2 * i)) (qP (q + 16 + 2 * i)) M mc ∧ fr pR (qPr r) R mr ∧ kpN R mr r i) := by
  have hr := hz.2.2.2.2.2.2
  have hr1 := hz.2.2.2.2.1
  unfold F_QG_readList F_MD_list
  rcases ls_next hz.1 (k := k) (s := s) (e := e) (j := 5) he (by omega) (by omega) with ⟨s1, e1, c1, c2, c3, c4, c5, c6⟩ | ⟨mc, mr2, c1, c2, c3, c4, c5⟩
  · rw [c1, Option.bind_some, show F_MD_needSign 40 (rt R k s e) = _ from c2, Option.bind_some]
    simp only [show ((1 : Int32) = 0) = False from by decide, if_false]
    have hn := hz.1.1
    rcases ls_list hi 20001 M R 5 s1 e1 0 x_fu x_fu (by omega) hz h0 (by omega) (fun j a => by omega) c4 (by unfold x_fu; omega) (by unfold x_fu; omega) with ⟨M', R', s', e', c', g', j1, j2, j3, j4, j5, j6, j7, j8, j9, j10, j11, j12⟩ | ⟨mc, mr, j1, j2, j3, j4, j5, j6⟩
    · left
      refine ⟨M', R', s', e', c', j1, j2, j3, ?_, j5, j6, j7, j8, j9, j10, j11, by omega⟩
      rw [show B_MD_list_9 x_fu (xI i) 0 1 (rt R 5 s1 e1) = _ from j4, list_end (m := rt R' 6 s' e') g' _ j5.2.2.2.2.1 hr hi]
      rfl
    · right
      exact ⟨mc, mr, j1, j2, j3, j4, j5, j6⟩
  · right
    rw [c1, Option.bind_some, show F_MD_needSign 40 (rt R k s e) = _ from c2, Option.bind_some]
    simp only [if_true]
    rw [show x_fu = 199999 + 1 from rfl, list_end 199999 _ ((c5.2.2.1 _ _ (by omega)).trans hr1) hr hi]
    exact ⟨mc, _, rfl, rfl, Flt_wA c3 _ _ _, upCP c4, fr_trans (upRP c5) (fr_wA _ _ _ _ (by unfold qPr; omega)), kpN_trans (kpN_fr c5) (kpN_wA _ _ (by omega))⟩
def cmpC (q1 cp : Nat) (r38 : x_m) : Option (Int32 × x_m) := (if x_kv (r38.2.2.1 3 1) = true then (if (r38.2.2.1 3 1) = (x_N + 33) then ((F_LX_next (x_N + 35) (x_wS r38 cp 1 1)).bind fun r67 => (if r67.1 = 0 then B_QG_readComparison_86 q1 r67.2 else ((F_QG_readList cp r67.2).bind fun r76 => (if r76.1 = 0 then B_QG_readComparison_86 q1 r76.2 else B_QG_readComparison_87 q1 1 r76.2)))) else (if x_kv (r38.2.2.1 3 1) = true then (if (r38.2.2.1 3 1) = (x_N + 35) then ((F_QG_readList cp r38).bind fun r104 => (if x_b1 r104.1 = true then some (r104.1, r104.2) else none)) else (if x_kv (r38.2.2.1 3 1) = true then (if (r38.2.2.1 3 1) = (x_N + 34) then ((F_QG_readBetween cp r38).bind fun r124 => B_QG_readComparison_136 q1 r124.1 r124.2) else ((F_QG_readRelation cp r38).bind fun r133 => B_QG_readComparison_136 q1 r133.1 r133.2)) else none)) else none)) else none)
theorem upLpP {cp : Nat} {m m' : x_m} (h : fr (pL cp) (qP cp) m m') : ∀ b, b ≠ 4 → cp ≠ 3 → m'.1 cp b = m.1 cp b := fun b hb hc => h.1 _ _ (by unfold pL; omega)
theorem cmp201_ok {R : x_m} {r c k s e : Nat} (l4 : Int32) (h5 : R.1 387 5 = 0) (hr1 : R.2.2.1 387 22 = r) (hr : r = 395 ∨ r = 409) (hc : c < 60) (hl : 0 ≤ l4) : B_MD_comparison_188 (xI c) l4 (rt R k s e) = if l4 = 8 then ((F_MD_read (rt (x_wA R (r + 10) c l4) k s e)).bind fun r227 => ((F_MD_isWord 18 r227).bind fun r234 => ((F_MD_must r234.1 r234.2).bind fun r237 => B_MD_comparison_242 (xI c) l4 r237.2))) else B_MD_comparison_242 (xI c) l4 (rt (x_wA R (r + 10) c l4) k s e) := by
  unfold B_MD_comparison_188 B_MD_comparison_201
  rw [if_neg (Int32.not_lt.mpr hl), F_MD_must_1 (rt R k s e) h5, Option.bind_some]
  simp only [show ((1 : Int32) = 0) = False from by decide, if_false]
  rw [show (rt R k s e).2.2.1 387 22 = r from hr1, if_pos (y_mq hr), xI_ix (by omega), if_pos (show decide (c < 60) = true by simp; omega), xI_cl (by omega), rt_wA]
/-- what stands behind a comparison's column -/
theorem ls_how {M R mr : x_m} {n D Ms q r c sn e0 k s e col : Nat} (hc : c < 60) (hz : ZQ M R n D Ms q r) (hs : RS R mr k s e) (ht : TF n e0 k s e)
    (m0 : M.1 (q + 16 + 2 * c) 0 = xI col) (m1 : M.1 (q + 16 + 2 * c) 1 = 0) (m4 : M.1 (q + 16 + 2 * c) 4 = 0) (r9 : R.2.1 (r + 9) c = xI col) (hcol : col < 32) (hD : col / 4 < D) (hL : ∃ L, M.1 (9 + 13 * (col / 4)) 0 = xI L ∧ L ≤ 4 ∧ col % 4 < L) (hcr : R.1 r 13 = xI c) (hs1 : R.1 r 11 = xI sn) (hsn : sn < 2600) :
    (∃ M' R' k' s' e', cmpC (q + 6) (q + 16 + 2 * c) (ct M k s e) = some (1, ct M' k' s' e') ∧ howC (xI c) mr = F_MD_read (rt (sayC R' r c sn) k' s' e') ∧ ZQ M' R' n D Ms q r ∧ CmpR M' R' q r D c ∧ fr (pP (q + 16 + 2 * c)) (qP (q + 16 + 2 * c)) M M' ∧ fr pR (qPr r) R R' ∧ kpN R R' r c ∧ e' ≤ n ∧ e < e') ∨
    (∃ mc mr', cmpC (q + 6) (q + 16 + 2 * c) (ct M k s e) = some (0, mc) ∧ howC (xI c) mr = some mr' ∧ Flt mc mr' ∧ fr (pW q) (qW q) M mc ∧ fr (pWr r) (qWr r) R mr') := by
  obtain ⟨t1, t2, t3, t4, t5, t6, t7⟩ := ht
  have hq := hz.2.2.2.2.2.1
  have hr := hz.2.2.2.2.2.2
  have hr1 := hz.2.2.2.2.1
  have h5 := Zl_5 hz.1
  have hC : cmpC (q + 6) (q + 16 + 2 * c) (ct M k s e) = if k = 33 then ((F_LX_next (x_N + 35) (x_wS (ct M k s e) (q + 16 + 2 * c) 1 1)).bind fun r67 => (if r67.1 = 0 then B_QG_readComparison_86 (q + 6) r67.2 else ((F_QG_readList (q + 16 + 2 * c) r67.2).bind fun r76 => (if r76.1 = 0 then B_QG_readComparison_86 (q + 6) r76.2 else B_QG_readComparison_87 (q + 6) 1 r76.2)))) else if k = 35 then ((F_QG_readList (q + 16 + 2 * c) (ct M k s e)).bind fun r104 => (if x_b1 r104.1 = true then some (r104.1, r104.2) else none)) else if k = 34 then ((F_QG_readBetween (q + 16 + 2 * c) (ct M k s e)).bind fun r124 => B_QG_readComparison_136 (q + 6) r124.1 r124.2) else ((F_QG_readRelation (q + 16 + 2 * c) (ct M k s e)).bind fun r133 => B_QG_readComparison_136 (q + 6) r133.1 r133.2) := by
    unfold cmpC
    rw [show (ct M k s e).2.2.1 3 1 = kRf k from rfl]
    simp only [kRf_kv t4, if_true, kRf_is (j := 33) t4 (by omega) (by omega), kRf_is (j := 35) t4 (by omega) (by omega), kRf_is (j := 34) t4 (by omega) (by omega)]
  rw [hC]
  have rel : F_QG_isRelation (kRf k) (ct M k s e) = some (bI (decide (11 ≤ k ∧ k ≤ 16)), ct M k s e) := by
    unfold F_QG_isRelation B_QG_isRelation_42 B_QG_isRelation_47
    simp only [kRf_kv t4, if_true, kRf_is (j := 11) t4 (by omega) (by omega), kRf_is (j := 12) t4 (by omega) (by omega), kRf_is (j := 13) t4 (by omega) (by omega), kRf_is (j := 14) t4 (by omega) (by omega), kRf_is (j := 15) t4 (by omega) (by omega), kRf_is (j := 16) t4 (by omega) (by omega)]
    by_cases z : 11 ≤ k ∧ k ≤ 16
    · rw [decide_eq_true z]
      have : k = 11 ∨ k = 12 ∨ k = 13 ∨ k = 14 ∨ k = 15 ∨ k = 16 := by omega
      rcases this with z | z | z | z | z | z <;> subst z <;> rfl
    · rw [decide_eq_false z, if_neg (by omega), if_neg (by omega), if_neg (by omega), if_neg (by omega), if_neg (by omega), if_neg (by omega)]
      rfl
  by_cases hb : k = 1 ∨ k = 36
  · right
    obtain ⟨b1, b2, b3⟩ := RS_bad hs hb
    have hp : 0 < mr.1 387 5 := by rw [b1]; exact kUn_pos k
    rw [howC_f _ mr (ne_pos hp), if_neg (show ¬ k = 33 by omega), if_neg (show ¬ k = 35 by omega), if_neg (show ¬ k = 34 by omega)]
    unfold F_QG_readRelation
    rw [show (ct M k s e).2.2.1 3 1 = kRf k from rfl, rel, decide_eq_false (show ¬ (11 ≤ k ∧ k ≤ 16) by omega), Option.bind_some]
    exact ⟨_, mr, rfl, rfl, ⟨by rw [b1]; rfl, by rw [b2]; rfl, hp⟩, upw (fr_trans (fr_ct _ _ _ _) (fr_cf _ _ _)), upwr b3⟩
  · have g1 : k ≠ 1 := fun z => hb (Or.inl z)
    have g2 : k ≠ 36 := fun z => hb (Or.inr z)
    have eq := RS_good hs g1 g2
    subst eq
    rw [howC_eq _ R t4 g1 g2]
    -- the list, of in or of not in
    have lst : ∀ (M1 R1 : x_m) (k1 s1 e1 : Nat) (h : Nat), (h = 7 ∨ h = 8) → ZQ M1 R1 n D Ms q r → fr (pP (q + 16 + 2 * c)) (qP (q + 16 + 2 * c)) M M1 → fr pR (qPr r) R R1 → kpN R R1 r c → M1.1 (q + 16 + 2 * c) 0 = xI col → M1.1 (q + 16 + 2 * c) 1 = (if h = 8 then 1 else 0) → M1.1 (q + 16 + 2 * c) 4 = 0 → R1.2.1 (r + 9) c = xI col → R1.2.1 (r + 10) c = xI h → e1 ≤ n → e ≤ e1 →
        (∃ M' R' k' s' e', F_QG_readList (q + 16 + 2 * c) (ct M1 k1 s1 e1) = some (1, ct M' k' s' e') ∧ B_MD_comparison_242 (xI c) (xI h) (rt R1 k1 s1 e1) = F_MD_read (rt (sayC R' r c sn) k' s' e') ∧ ZQ M' R' n D Ms q r ∧ CmpR M' R' q r D c ∧ fr (pP (q + 16 + 2 * c)) (qP (q + 16 + 2 * c)) M M' ∧ fr pR (qPr r) R R' ∧ kpN R R' r c ∧ e' ≤ n ∧ e < e') ∨
        (∃ mc mr', F_QG_readList (q + 16 + 2 * c) (ct M1 k1 s1 e1) = some (0, mc) ∧ B_MD_comparison_242 (xI c) (xI h) (rt R1 k1 s1 e1) = some mr' ∧ Flt mc mr' ∧ fr (pW q) (qW q) M mc ∧ fr (pWr r) (qWr r) R mr') := by
      intro M1 R1 k1 s1 e1 h hh z1 fM fR kR a0 a1 a4 b9 b10 he1 hee
      unfold B_MD_comparison_242
      rw [if_pos (by rcases hh with z | z <;> subst z <;> decide)]
      have hh6 : ¬ xI h = 6 := by rcases hh with z | z <;> subst z <;> decide
      rcases ls_readList hc z1 a4 (k := k1) (s := s1) he1 with ⟨M', R', s', e', c', j1, j2, j3, j4, j5, j6, j7, j8, j9, j10, j11, j12⟩ | ⟨mc, mr, j1, j2, j3, j4, j5, j6⟩
      · left
        have fR' : fr pR (qPr r) R (x_wA R' (r + 11) c (xI c')) := fr_trans fR (fr_trans (upLPr j9) (fr_wA _ _ _ _ (by unfold qPr; omega)))
        have fM' := fr_trans fM (upLP j8)
        refine ⟨M', x_wA R' (r + 11) c (xI c'), 6, s', e', j3, ?_, ZQ_P hc hz fM' fR' (Fz_Ar (Zl_f j5.1)), ?_, fM', fR', kpN_trans kR (kpN_trans j10 (kpN_wA _ _ (by omega))), j11, by omega⟩
        · rw [j4, Option.bind_some]
          unfold B_MD_comparison_270
          rw [if_neg hh6]
          refine cmp306_eq (show R'.1 387 5 = 0 from Zl_5 j5.1) j5.2.2.2.2.1 hr ?_ ?_ hsn
          · exact ((fr_trans fR (upLPr j9)).1 _ _ (by unfold pR; omega)).trans hcr
          · exact ((fr_trans fR (upLPr j9)).1 _ _ (by unfold pR; omega)).trans hs1
        · obtain ⟨L, l1, l2, l3⟩ := hL
          have k9 : ∀ a, a = r + 9 ∨ a = r + 10 → (x_wA R' (r + 11) c (xI c')).2.1 a c = R1.2.1 a c := by
            intro a ha
            show (if a = r + 11 ∧ c = c then _ else R'.2.1 a c) = _
            rw [if_neg (by omega)]
            exact congrFun (j9.2.1 a (by unfold qL; omega)) c
          have e11 : (x_wA R' (r + 11) c (xI c')).2.1 (r + 11) c = xI c' := by
            show (if r + 11 = r + 11 ∧ c = c then _ else _) = _
            rw [if_pos ⟨rfl, rfl⟩]
          have e13 : (x_wA R' (r + 11) c (xI c')).2.1 (r + 13) = R'.2.1 (r + 13) := by
            funext j
            show (if r + 13 = r + 11 ∧ j = c then _ else _) = _
            rw [if_neg (by omega)]
          have p0 := upLpP j8 0 (by omega) (by omega)
          have p1 := upLpP j8 1 (by omega) (by omega)
          refine ⟨col, hcol, hD, ⟨L, (fM'.1 _ _ (by unfold pP; omega)).trans l1, l2, l3⟩, p0.trans a0, (k9 _ (Or.inl rfl)).trans b9, ⟨c', j2, j6⟩, ?_, ⟨h, by omega, (k9 _ (Or.inr rfl)).trans b10, fun _ => ⟨c', j2, e11⟩⟩, fun v => ?_⟩
          · rw [p1, a1]; rcases hh with z | z <;> subst z <;> simp
          · unfold accB cmpB
            rw [j6, p1, a1, k9 _ (Or.inr rfl), b10, e11, e13, xI_cl (by omega), if_neg (show ¬ xI c' = 0 from fun z => by rw [show (0 : Int32) = xI 0 from rfl, xI_eq (by omega) (by omega)] at z; omega)]
            rw [mem8_congr (g := fun j => R'.2.1 (r + 13) (40 * c + j)) v c' 0 (fun j _ y => j7 j (by omega))]
            rcases hh with z | z <;> subst z
            · show (mem8 _ v c' 0 != false) = (mem8 _ v c' 0 == true)
              cases mem8 (fun j => R'.2.1 (r + 13) (40 * c + j)) v c' 0 <;> rfl
            · show (mem8 _ v c' 0 != true) = (mem8 _ v c' 0 == false)
              cases mem8 (fun j => R'.2.1 (r + 13) (40 * c + j)) v c' 0 <;> rfl
      · right
        rw [j1, j2, Option.bind_some]
        obtain ⟨m', x1, x2⟩ := cmp270_f (m := mr) (xI h) hc j3.2.2 ((j5.2.2.1 _ _ (by omega)).trans z1.2.2.2.2.1) hr
        exact ⟨mc, m', rfl, x1, Flt_fQ j3 x2, fr_trans (upPQ hc fM) (upPQ hc j4), fr_trans (upPQr fR) (fr_trans (upPQr j5) x2.1)⟩
    by_cases k33 : k = 33
    · rw [if_pos k33, show hwI k = xI 8 from by rw [k33]; rfl, cmp201_ok (xI 8) h5 hr1 hr hc (by decide), if_pos (show xI 8 = 8 from rfl), ct_wS _ _ _ _ _ (by omega)]
      have fM1 : fr (pP (q + 16 + 2 * c)) (qP (q + 16 + 2 * c)) M (x_wS M (q + 16 + 2 * c) 1 1) := fr_wS _ _ _ _ (Or.inr rfl)
      have fR1 : fr pR (qPr r) R (x_wA R (r + 10) c (xI 8)) := fr_wA _ _ _ _ (by unfold qPr; omega)
      have z1 : ZQ (x_wS M (q + 16 + 2 * c) 1 1) (x_wA R (r + 10) c (xI 8)) n D Ms q r := ZQ_P hc hz fM1 fR1 (Fz_S (Fz_Ar (Zl_f hz.1)) (by omega))
      have hR : ((F_MD_read (rt (x_wA R (r + 10) c (xI 8)) k s e)).bind fun r227 => ((F_MD_isWord 18 r227).bind fun r234 => ((F_MD_must r234.1 r234.2).bind fun r237 => B_MD_comparison_242 (xI c) (xI 8) r237.2))) = ((F_MD_read (rt (x_wA R (r + 10) c (xI 8)) k s e)).bind (fun r => (F_MD_isWord (xI 18) r).bind fun r' => F_MD_must r'.1 r'.2)).bind fun r237 => B_MD_comparison_242 (xI c) (xI 8) r237.2 := by
        cases F_MD_read (rt (x_wA R (r + 10) c (xI 8)) k s e) with
        | none => rfl
        | some x =>
          show (F_MD_isWord 18 x).bind _ = ((F_MD_isWord (xI 18) x).bind _).bind _
          rw [show xI 18 = 18 from rfl]
          cases F_MD_isWord 18 x <;> rfl
      rw [hR]
      rcases ls_word z1.1 (k := k) (s := s) (e := e) (w := 18) t2 (by omega) with ⟨s1, e1, c1, c2, c3, c4, c5⟩ | ⟨mc, mr2, c1, c2, c3, c4, c5⟩
      · rw [show F_LX_next (x_N + 35) (ct (x_wS M (q + 16 + 2 * c) 1 1) k s e) = _ from c1, c2, Option.bind_some, Option.bind_some]
        simp only [show ((1 : Int32) = 0) = False from by decide, if_false]
        have y1 : (x_wS M (q + 16 + 2 * c) 1 1).1 (q + 16 + 2 * c) 0 = xI col := by
          show (if q + 16 + 2 * c = q + 16 + 2 * c ∧ 0 = 1 then _ else _) = _
          rw [if_neg (by omega)]; exact m0
        have y2 : (x_wS M (q + 16 + 2 * c) 1 1).1 (q + 16 + 2 * c) 1 = (if 8 = 8 then 1 else 0) := by
          show (if q + 16 + 2 * c = q + 16 + 2 * c ∧ 1 = 1 then _ else _) = _
          rw [if_pos ⟨rfl, rfl⟩]; rfl
        have y3 : (x_wS M (q + 16 + 2 * c) 1 1).1 (q + 16 + 2 * c) 4 = 0 := by
          show (if q + 16 + 2 * c = q + 16 + 2 * c ∧ 4 = 1 then _ else _) = _
          rw [if_neg (by omega)]; exact m4
        have y4 : (x_wA R (r + 10) c (xI 8)).2.1 (r + 9) c = xI col := by
          show (if r + 9 = r + 10 ∧ c = c then _ else _) = _
          rw [if_neg (by omega)]; exact r9
        have y5 : (x_wA R (r + 10) c (xI 8)).2.1 (r + 10) c = xI 8 := by
          show (if r + 10 = r + 10 ∧ c = c then _ else _) = _
          rw [if_pos ⟨rfl, rfl⟩]
        rcases lst (x_wS M (q + 16 + 2 * c) 1 1) (x_wA R (r + 10) c (xI 8)) 35 s1 e1 8 (Or.inr rfl) z1 fM1 fR1 (kpN_wA _ _ (by omega)) y1 y2 y3 y4 y5 c4 (by omega) with ⟨M', R', k', s', e', j1, j2, j3, j4, j5, j6, j7, j8, j9⟩ | ⟨mc, mr', j1, j2, j3, j4, j5⟩
        · left
          refine ⟨M', R', k', s', e', ?_, j2, j3, j4, j5, j6, j7, j8, j9⟩
          rw [j1, Option.bind_some]
          rfl
        · right
          refine ⟨mc, mr', ?_, j2, j3, j4, j5⟩
          rw [j1, Option.bind_some]
          rfl
      · right
        rw [show F_LX_next (x_N + 35) (ct (x_wS M (q + 16 + 2 * c) 1 1) k s e) = _ from c1, c2, Option.bind_some, Option.bind_some]
        simp only [if_true]
        obtain ⟨m', x1, x2⟩ := cmp242_f (m := mr2) (xI 8) hc c3.2.2 ((c5.2.2.1 _ _ (by omega)).trans hr1) hr
        exact ⟨mc, m', rfl, x1, Flt_fQ c3 x2, fr_trans (upPQ hc fM1) (upw c4), fr_trans (upPQr fR1) (fr_trans (upwr c5) x2.1)⟩
    · rw [if_neg k33]
      by_cases k35 : k = 35
      · rw [if_pos k35, show hwI k = xI 7 from by rw [k35]; rfl, cmp201_ok (xI 7) h5 hr1 hr hc (by decide), if_neg (show ¬ xI 7 = 8 by decide)]
        have fR1 : fr pR (qPr r) R (x_wA R (r + 10) c (xI 7)) := fr_wA _ _ _ _ (by unfold qPr; omega)
        have z1 : ZQ M (x_wA R (r + 10) c (xI 7)) n D Ms q r := ZQ_P hc hz (fr_refl _ _ M) fR1 (Fz_Ar (Zl_f hz.1))
        have y4 : (x_wA R (r + 10) c (xI 7)).2.1 (r + 9) c = xI col := by
          show (if r + 9 = r + 10 ∧ c = c then _ else _) = _
          rw [if_neg (by omega)]; exact r9
        have y5 : (x_wA R (r + 10) c (xI 7)).2.1 (r + 10) c = xI 7 := by
          show (if r + 10 = r + 10 ∧ c = c then _ else _) = _
          rw [if_pos ⟨rfl, rfl⟩]
        rcases lst M (x_wA R (r + 10) c (xI 7)) k s e 7 (Or.inl rfl) z1 (fr_refl _ _ _) fR1 (kpN_wA _ _ (by omega)) m0 m1 m4 y4 y5 t2 (Nat.le_refl e) with ⟨M', R', k', s', e', j1, j2, j3, j4, j5, j6, j7, j8, j9⟩ | ⟨mc, mr', j1, j2, j3, j4, j5⟩
        · left
          refine ⟨M', R', k', s', e', ?_, j2, j3, j4, j5, j6, j7, j8, j9⟩
          rw [j1, Option.bind_some]
          rfl
        · right
          refine ⟨mc, mr', ?_, j2, j3, j4, j5⟩
          rw [j1, Option.bind_some]
          rfl
      · rw [if_neg k35]
        by_cases k34 : k = 34
        · rw [if_pos k34, show hwI k = xI 6 from by rw [k34]; rfl, cmp201_ok (xI 6) h5 hr1 hr hc (by decide), if_neg (show ¬ xI 6 = 8 by decide)]
          have fR1 : fr pR (qPr r) R (x_wA R (r + 10) c (xI 6)) := fr_wA _ _ _ _ (by unfold qPr; omega)
          have z1 : ZQ M (x_wA R (r + 10) c (xI 6)) n D Ms q r := ZQ_P hc hz (fr_refl _ _ M) fR1 (Fz_Ar (Zl_f hz.1))
          have kR1 : kpN R (x_wA R (r + 10) c (xI 6)) r c := kpN_wA _ _ (by omega)
          have y9 : (x_wA R (r + 10) c (xI 6)).2.1 (r + 9) c = xI col := by
            show (if r + 9 = r + 10 ∧ c = c then _ else _) = _
            rw [if_neg (by omega)]; exact r9
          have y10 : (x_wA R (r + 10) c (xI 6)).2.1 (r + 10) c = xI 6 := by
            show (if r + 10 = r + 10 ∧ c = c then _ else _) = _
            rw [if_pos ⟨rfl, rfl⟩]
          generalize x_wA R (r + 10) c (xI 6) = R1 at *
          unfold F_QG_readBetween B_MD_comparison_242 B_QG_readBetween_49
          rw [if_neg (show ¬ (7 : Int32) ≤ xI 6 by decide), show (rt R1 k s e).2.2.1 387 22 = r from z1.2.2.2.2.1, if_pos (y_mq hr)]
          rcases ls_numQ z1 (k := k) (s := s) t2 with ⟨M2, R2, s2, e2, a1, a2, a3, a4, a5, a6, a7, a8⟩ | ⟨mc, mr', a1, a2, a3, a4, a5⟩
          · rw [a1, a2, Option.bind_some, Option.bind_some]
            simp only [show ((1 : Int32) = 0) = False from by decide, if_false]
            rw [xI_ix (by omega), if_pos (show decide (c < 60) = true by simp; omega), xI_cl (by omega), rt_wA]
            have fR2 : fr pR (qPr r) R (x_wA R2 (r + 11) c (M2.1 3 4)) := fr_trans fR1 (fr_trans (upRP a5) (fr_wA _ _ _ _ (by unfold qPr; omega)))
            have kR2 : kpN R (x_wA R2 (r + 11) c (M2.1 3 4)) r c := kpN_trans kR1 (kpN_trans (kpN_fr a5) (kpN_wA _ _ (by omega)))
            have z2 : ZQ M2 (x_wA R2 (r + 11) c (M2.1 3 4)) n D Ms q r := ZQ_P hc hz (upCP a4) fR2 (Fz_Ar (Zl_f a3.1))
            have w9 : ∀ a, a = r + 9 ∨ a = r + 10 → (x_wA R2 (r + 11) c (M2.1 3 4)).2.1 a c = R1.2.1 a c := by
              intro a ha
              show (if a = r + 11 ∧ c = c then _ else R2.2.1 a c) = _
              rw [if_neg (by omega)]
              exact congrFun (a5.2.1 a id) c
            have w11 : (x_wA R2 (r + 11) c (M2.1 3 4)).2.1 (r + 11) c = M2.1 3 4 := by
              show (if r + 11 = r + 11 ∧ c = c then _ else _) = _
              rw [if_pos ⟨rfl, rfl⟩]
            rw [show (ct M2 2 s2 e2).1 3 4 = M2.1 3 4 from rfl]
            generalize hv : M2.1 3 4 = va at *
            generalize x_wA R2 (r + 11) c va = R3 at *
            unfold B_MD_comparison_270
            rw [if_pos (show xI 6 = 6 from rfl)]
            have hR : ((F_MD_read (rt R3 2 s2 e2)).bind fun r278 => ((F_MD_isWord 14 r278).bind fun r285 => ((F_MD_must r285.1 r285.2).bind fun r288 => (if x_mq (r288.2.2.2.1 387 22) = true then ((F_MD_needNumber r288.2).bind fun r302 => (if x_ix (xI c) 60 = true then B_MD_comparison_306 (xI c) (x_wA r302.2 (r288.2.2.2.1 387 22 + 12) (xI c).toNatClampNeg r302.1) else none)) else none)))) = ((F_MD_read (rt R3 2 s2 e2)).bind (fun r => (F_MD_isWord (xI 14) r).bind fun r' => F_MD_must r'.1 r'.2)).bind fun r288 => (if x_mq (r288.2.2.2.1 387 22) = true then ((F_MD_needNumber r288.2).bind fun r302 => (if x_ix (xI c) 60 = true then B_MD_comparison_306 (xI c) (x_wA r302.2 (r288.2.2.2.1 387 22 + 12) (xI c).toNatClampNeg r302.1) else none)) else none) := by
              cases F_MD_read (rt R3 2 s2 e2) with
              | none => rfl
              | some x =>
                show (F_MD_isWord 14 x).bind _ = ((F_MD_isWord (xI 14) x).bind _).bind _
                rw [show xI 14 = 14 from rfl]
                cases F_MD_isWord 14 x <;> rfl
            rw [hR]
            rcases ls_word z2.1 (k := 2) (s := s2) (e := e2) (w := 14) a6 (by omega) with ⟨s3, e3, c1, c2, c3, c4, c5⟩ | ⟨mc, mr2, c1, c2, c3, c4, c5⟩
            · rw [show F_LX_next (x_N + 31) (ct M2 2 s2 e2) = _ from c1, c2, Option.bind_some, Option.bind_some]
              simp only [show ((1 : Int32) = 0) = False from by decide, if_false]
              rw [show (rt R3 (17 + 14) s3 e3).2.2.1 387 22 = r from z2.2.2.2.2.1, if_pos (y_mq hr)]
              rcases ls_numQ z2 (k := 17 + 14) (s := s3) c4 with ⟨M4, R4, s4, e4, d1, d2, d3, d4, d5, d6, d7, d8⟩ | ⟨mc, mr', d1, d2, d3, d4, d5⟩
              · left
                rw [d1, d2, Option.bind_some, Option.bind_some]
                simp only [show ((1 : Int32) = 0) = False from by decide, if_false]
                rw [xI_ix (by omega), if_pos (show decide (c < 60) = true by simp; omega), xI_cl (by omega), rt_wA]
                unfold F_CP_becomeRange
                rw [Option.bind_some, ct_wS _ _ _ _ _ (by omega), ct_wS _ _ _ _ _ (by omega), show (ct M4 2 s4 e4).1 3 4 = M4.1 3 4 from rfl]
                have fM4 : fr (pP (q + 16 + 2 * c)) (qP (q + 16 + 2 * c)) M (x_wS (x_wS M4 (q + 16 + 2 * c) 2 va) (q + 16 + 2 * c) 3 (M4.1 3 4)) := fr_trans (upCP (fr_trans a4 d4)) (fr_trans (fr_wS _ _ _ _ (Or.inr rfl)) (fr_wS _ _ _ _ (Or.inr rfl)))
                have fR4 : fr pR (qPr r) R (x_wA R4 (r + 12) c (M4.1 3 4)) := fr_trans fR2 (fr_trans (upRP d5) (fr_wA _ _ _ _ (by unfold qPr; omega)))
                have mf : ∀ b, b ≠ 2 → b ≠ 3 → (x_wS (x_wS M4 (q + 16 + 2 * c) 2 va) (q + 16 + 2 * c) 3 (M4.1 3 4)).1 (q + 16 + 2 * c) b = M.1 (q + 16 + 2 * c) b := by
                  intro b x y
                  show (if q + 16 + 2 * c = q + 16 + 2 * c ∧ b = 3 then _ else if q + 16 + 2 * c = q + 16 + 2 * c ∧ b = 2 then _ else M4.1 (q + 16 + 2 * c) b) = _
                  rw [if_neg (by omega), if_neg (by omega)]
                  exact (fr_trans a4 d4).1 _ _ (by unfold pC; omega)
                have m2' : (x_wS (x_wS M4 (q + 16 + 2 * c) 2 va) (q + 16 + 2 * c) 3 (M4.1 3 4)).1 (q + 16 + 2 * c) 2 = va := by
                  show (if q + 16 + 2 * c = q + 16 + 2 * c ∧ 2 = 3 then _ else if q + 16 + 2 * c = q + 16 + 2 * c ∧ 2 = 2 then _ else _) = _
                  rw [if_neg (by omega), if_pos ⟨rfl, rfl⟩]
                have m3' : (x_wS (x_wS M4 (q + 16 + 2 * c) 2 va) (q + 16 + 2 * c) 3 (M4.1 3 4)).1 (q + 16 + 2 * c) 3 = M4.1 3 4 := by
                  show (if q + 16 + 2 * c = q + 16 + 2 * c ∧ 3 = 3 then _ else _) = _
                  rw [if_pos ⟨rfl, rfl⟩]
                have rf9 : ∀ a, a = r + 9 ∨ a = r + 10 ∨ a = r + 11 → (x_wA R4 (r + 12) c (M4.1 3 4)).2.1 a c = R3.2.1 a c := by
                  intro a ha
                  show (if a = r + 12 ∧ c = c then _ else R4.2.1 a c) = _
                  rw [if_neg (by omega)]
                  exact congrFun (d5.2.1 a id) c
                have rf12 : (x_wA R4 (r + 12) c (M4.1 3 4)).2.1 (r + 12) c = M4.1 3 4 := by
                  show (if r + 12 = r + 12 ∧ c = c then _ else _) = _
                  rw [if_pos ⟨rfl, rfl⟩]
                obtain ⟨L, l1, l2, l3⟩ := hL
                refine ⟨x_wS (x_wS M4 (q + 16 + 2 * c) 2 va) (q + 16 + 2 * c) 3 (M4.1 3 4), x_wA R4 (r + 12) c (M4.1 3 4), 2, s4, e4, rfl, ?_, ZQ_P hc hz fM4 fR4 (Fz_S (Fz_S (Fz_Ar (Zl_f d3.1)) (by omega)) (by omega)), ?_, fM4, fR4, kpN_trans kR2 (kpN_trans (kpN_fr d5) (kpN_wA _ _ (by omega))), d6, by omega⟩
                · refine cmp306_eq (show R4.1 387 5 = 0 from Zl_5 d3.1) d3.2.2.2.2.1 hr ?_ ?_ hsn
                  · exact (fR4.1 _ _ (by unfold pR; omega)).trans hcr
                  · exact (fR4.1 _ _ (by unfold pR; omega)).trans hs1
                · refine ⟨col, hcol, hD, ⟨L, (fM4.1 _ _ (by unfold pP; omega)).trans l1, l2, l3⟩, (mf 0 (by omega) (by omega)).trans m0, ?_, ⟨0, by omega, (mf 4 (by omega) (by omega)).trans m4⟩, Or.inl ((mf 1 (by omega) (by omega)).trans m1), ⟨6, by omega, ?_, fun z => by omega⟩, fun v => ?_⟩
                  · rw [rf9 _ (Or.inl rfl), w9 _ (Or.inl rfl)]; exact y9
                  · rw [rf9 _ (Or.inr (Or.inl rfl)), w9 _ (Or.inr rfl)]; exact y10
                  · unfold accB cmpB
                    rw [mf 4 (by omega) (by omega), m4, mf 1 (by omega) (by omega), m1, m2', m3', rf9 _ (Or.inr (Or.inl rfl)), w9 _ (Or.inr rfl), y10, rf9 _ (Or.inr (Or.inr rfl)), w11, rf12, if_pos rfl]
                    show ((decide (va ≤ v) && decide (v ≤ M4.1 3 4)) != false) = (decide (va ≤ v) && decide (v ≤ M4.1 3 4))
                    cases (decide (va ≤ v) && decide (v ≤ M4.1 3 4)) <;> rfl
              · right
                rw [d1, d2, Option.bind_some, Option.bind_some]
                simp only [if_true]
                rw [xI_ix (by omega), if_pos (show decide (c < 60) = true by simp; omega), xI_cl (by omega)]
                obtain ⟨m', x1, x2⟩ := cmp306_f (m := x_wA mr' (r + 12) c 0) (xI c) d3.2.2 ((d5.2.2.1 _ _ (by omega)).trans z2.2.2.2.2.1) hr
                exact ⟨mc, m', rfl, x1, Flt_fQ (Flt_wA d3 _ _ _) x2, upw (fr_trans a4 d4), fr_trans (upPQr fR2) (fr_trans (upwr d5) (fr_trans (fr_wA _ _ _ _ (by unfold qWr; omega)) x2.1))⟩
            · right
              rw [show F_LX_next (x_N + 31) (ct M2 2 s2 e2) = _ from c1, c2, Option.bind_some, Option.bind_some]
              simp only [if_true]
              have rq : mr2.2.2.1 387 22 = r := (c5.2.2.1 _ _ (by omega)).trans z2.2.2.2.2.1
              rw [rq, if_pos (y_mq hr), F_MD_needNumber_f _ c3.2.2]
              simp only [Option.bind_some]
              rw [xI_ix (by omega), if_pos (show decide (c < 60) = true by simp; omega), xI_cl (by omega)]
              obtain ⟨m', x1, x2⟩ := cmp306_f (m := x_wA mr2 (r + 12) c 0) (xI c) c3.2.2 rq hr
              exact ⟨mc, m', rfl, x1, Flt_fQ (Flt_wA c3 _ _ _) x2, upw (fr_trans a4 c4), fr_trans (upPQr fR2) (fr_trans (upwr c5) (fr_trans (fr_wA _ _ _ _ (by unfold qWr; omega)) x2.1))⟩
          · right
            rw [a1, a2, Option.bind_some, Option.bind_some]
            simp only [if_true]
            rw [xI_ix (by omega), if_pos (show decide (c < 60) = true by simp; omega), xI_cl (by omega)]
            obtain ⟨m', x1, x2⟩ := cmp270_f (m := x_wA mr' (r + 11) c 0) (xI 6) hc a3.2.2 ((a5.2.2.1 _ _ (by omega)).trans z1.2.2.2.2.1) hr
            exact ⟨mc, m', rfl, x1, Flt_fQ (Flt_wA a3 _ _ _) x2, upw a4, fr_trans (upPQr fR1) (fr_trans (upwr a5) (fr_trans (fr_wA _ _ _ _ (by unfold qWr; omega)) x2.1))⟩
        · rw [if_neg k34]
          by_cases kr : 11 ≤ k ∧ k ≤ 16
          · have hwk : hwI k = xI (k - 11) := by
              have : k = 11 ∨ k = 12 ∨ k = 13 ∨ k = 14 ∨ k = 15 ∨ k = 16 := by omega
              rcases this with z | z | z | z | z | z <;> subst z <;> rfl
            have n8 : ¬ xI (k - 11) = 8 := by
              intro z
              rw [show (8 : Int32) = xI 8 from rfl, xI_eq (by omega) (by omega)] at z; omega
            have n6 : ¬ xI (k - 11) = 6 := by
              intro z
              rw [show (6 : Int32) = xI 6 from rfl, xI_eq (by omega) (by omega)] at z; omega
            have n7 : ¬ (7 : Int32) ≤ xI (k - 11) := by
              intro z
              rw [show (7 : Int32) = xI 7 from rfl, xI_le (by omega) (by omega)] at z; omega
            rw [hwk, cmp201_ok (xI (k - 11)) h5 hr1 hr hc (xI_nonneg (by omega)), if_neg n8]
            have fR1 : fr pR (qPr r) R (x_wA R (r + 10) c (xI (k - 11))) := fr_wA _ _ _ _ (by unfold qPr; omega)
            have z1 : ZQ M (x_wA R (r + 10) c (xI (k - 11))) n D Ms q r := ZQ_P hc hz (fr_refl _ _ M) fR1 (Fz_Ar (Zl_f hz.1))
            have kR1 : kpN R (x_wA R (r + 10) c (xI (k - 11))) r c := kpN_wA _ _ (by omega)
            have y9 : (x_wA R (r + 10) c (xI (k - 11))).2.1 (r + 9) c = xI col := by
              show (if r + 9 = r + 10 ∧ c = c then _ else _) = _
              rw [if_neg (by omega)]; exact r9
            have y10 : (x_wA R (r + 10) c (xI (k - 11))).2.1 (r + 10) c = xI (k - 11) := by
              show (if r + 10 = r + 10 ∧ c = c then _ else _) = _
              rw [if_pos ⟨rfl, rfl⟩]
            generalize x_wA R (r + 10) c (xI (k - 11)) = R1 at *
            unfold F_QG_readRelation B_MD_comparison_242
            rw [if_neg n7, show (rt R1 k s e).2.2.1 387 22 = r from z1.2.2.2.2.1, if_pos (y_mq hr), show (ct M k s e).2.2.1 3 1 = kRf k from rfl, rel, decide_eq_true kr, Option.bind_some]
            simp only [show bI true = 1 from rfl, show ((1 : Int32) = 0) = False from by decide, if_false]
            rcases ls_numQ z1 (k := k) (s := s) t2 with ⟨M2, R2, s2, e2, a1, a2, a3, a4, a5, a6, a7, a8⟩ | ⟨mc, mr', a1, a2, a3, a4, a5⟩
            · left
              rw [a1, a2, Option.bind_some, Option.bind_some]
              simp only [show ((1 : Int32) = 0) = False from by decide, if_false]
              rw [xI_ix (by omega), if_pos (show decide (c < 60) = true by simp; omega), xI_cl (by omega), rt_wA, F_CP_becomeRelation_eq kr.1 kr.2, Option.bind_some, ct_wS _ _ _ _ _ (by omega), ct_wS _ _ _ _ _ (by omega), ct_wS _ _ _ _ _ (by omega), show (ct M2 2 s2 e2).1 3 4 = M2.1 3 4 from rfl]
              unfold B_MD_comparison_270
              rw [if_neg n6]
              generalize M2.1 3 4 = va at *
              have fM2 : fr (pP (q + 16 + 2 * c)) (qP (q + 16 + 2 * c)) M (x_wS (x_wS (x_wS M2 (q + 16 + 2 * c) 1 (rNeg k)) (q + 16 + 2 * c) 2 (rLow k va)) (q + 16 + 2 * c) 3 (rHigh k va)) := fr_trans (upCP a4) (fr_trans (fr_wS _ _ _ _ (Or.inr rfl)) (fr_trans (fr_wS _ _ _ _ (Or.inr rfl)) (fr_wS _ _ _ _ (Or.inr rfl))))
              have fR2 : fr pR (qPr r) R (x_wA R2 (r + 11) c va) := fr_trans fR1 (fr_trans (upRP a5) (fr_wA _ _ _ _ (by unfold qPr; omega)))
              have mf : ∀ b, (x_wS (x_wS (x_wS M2 (q + 16 + 2 * c) 1 (rNeg k)) (q + 16 + 2 * c) 2 (rLow k va)) (q + 16 + 2 * c) 3 (rHigh k va)).1 (q + 16 + 2 * c) b = if b = 3 then rHigh k va else if b = 2 then rLow k va else if b = 1 then rNeg k else M.1 (q + 16 + 2 * c) b := by
                intro b
                show (if q + 16 + 2 * c = q + 16 + 2 * c ∧ b = 3 then _ else if q + 16 + 2 * c = q + 16 + 2 * c ∧ b = 2 then _ else if q + 16 + 2 * c = q + 16 + 2 * c ∧ b = 1 then _ else M2.1 (q + 16 + 2 * c) b) = _
                simp only [true_and]
                rw [show M2.1 (q + 16 + 2 * c) b = M.1 (q + 16 + 2 * c) b from a4.1 _ _ (by unfold pC; omega)]
              have rf9 : ∀ a, a = r + 9 ∨ a = r + 10 → (x_wA R2 (r + 11) c va).2.1 a c = R1.2.1 a c := by
                intro a ha
                show (if a = r + 11 ∧ c = c then _ else R2.2.1 a c) = _
                rw [if_neg (by omega)]
                exact congrFun (a5.2.1 a id) c
              have rf11 : (x_wA R2 (r + 11) c va).2.1 (r + 11) c = va := by
                show (if r + 11 = r + 11 ∧ c = c then _ else _) = _
                rw [if_pos ⟨rfl, rfl⟩]
              obtain ⟨L, l1, l2, l3⟩ := hL
              refine ⟨x_wS (x_wS (x_wS M2 (q + 16 + 2 * c) 1 (rNeg k)) (q + 16 + 2 * c) 2 (rLow k va)) (q + 16 + 2 * c) 3 (rHigh k va), x_wA R2 (r + 11) c va, 2, s2, e2, rfl, ?_, ZQ_P hc hz fM2 fR2 (Fz_S (Fz_S (Fz_S (Fz_Ar (Zl_f a3.1)) (by omega)) (by omega)) (by omega)), ?_, fM2, fR2, kpN_trans kR1 (kpN_trans (kpN_fr a5) (kpN_wA _ _ (by omega))), a6, a7⟩
              · refine cmp306_eq (show R2.1 387 5 = 0 from Zl_5 a3.1) a3.2.2.2.2.1 hr ?_ ?_ hsn
                · exact (fR2.1 _ _ (by unfold pR; omega)).trans hcr
                · exact (fR2.1 _ _ (by unfold pR; omega)).trans hs1
              · refine ⟨col, hcol, hD, ⟨L, (fM2.1 _ _ (by unfold pP; omega)).trans l1, l2, l3⟩, (mf 0).trans m0, ?_, ⟨0, by omega, (mf 4).trans m4⟩, ?_, ⟨k - 11, by omega, ?_, fun z => by omega⟩, fun v => ?_⟩
                · rw [rf9 _ (Or.inl rfl)]; exact y9
                · rw [mf 1]
                  show rNeg k = 0 ∨ rNeg k = 1
                  unfold rNeg
                  split <;> simp
                · rw [rf9 _ (Or.inr rfl)]; exact y10
                · exact rel_sem kr.1 kr.2 va v ((mf 4).trans m4) (mf 1) (mf 2) (mf 3) ((rf9 _ (Or.inr rfl)).trans y10) rf11
            · right
              rw [a1, a2, Option.bind_some, Option.bind_some]
              simp only [if_true]
              rw [xI_ix (by omega), if_pos (show decide (c < 60) = true by simp; omega), xI_cl (by omega)]
              obtain ⟨m', x1, x2⟩ := cmp270_f (m := x_wA mr' (r + 11) c 0) (xI (k - 11)) hc a3.2.2 ((a5.2.2.1 _ _ (by omega)).trans z1.2.2.2.2.1) hr
              exact ⟨mc, m', rfl, x1, Flt_fQ (Flt_wA a3 _ _ _) x2, upw a4, fr_trans (upPQr fR1) (fr_trans (upwr a5) (fr_trans (fr_wA _ _ _ _ (by unfold qWr; omega)) x2.1))⟩
          · right
            have hw : hwI k = -1 := by unfold hwI; rw [if_neg (by omega), if_neg (by omega), if_neg (by omega), if_neg (by omega), if_neg (by omega), if_neg (by omega), if_neg (by omega), if_neg (by omega), if_neg (by omega)]
            unfold F_QG_readRelation B_MD_comparison_188 B_MD_comparison_201
            rw [show (ct M k s e).2.2.1 3 1 = kRf k from rfl, rel, decide_eq_false kr, Option.bind_some, hw, if_pos (show (-1 : Int32) < 0 by decide), F_MD_must_0 R t4 g1 g2 h5, Option.bind_some]
            exact ⟨_, _, rfl, rfl, Flt_cr _ _ _ _ (kUn_pos k), upw (fr_trans (fr_ct _ _ _ _) (fr_cf _ _ _)), upwr (fr_trans (fr_rt _ _ _ _) (fr_rf _ _ _))⟩

theorem y_cp {q c : Nat} (hq : q = 115 ∨ q = 251) (hc : c < 60) : x_cp (q + 6 + 10 + 2 * c) = true := by
  unfold x_cp
  rcases hq with z | z <;> subst z <;> simp <;> omega
/-- a comparison -/
theorem ls_cmp {M R mr : x_m} {n D Ms q r c sn e0 k s e : Nat} (hz : ZQ M R n D Ms q r) (hs : RS R mr k s e) (ht : TF n e0 k s e) (hc : M.1 (q + 6) 0 = xI c) (hcr : R.1 r 13 = xI c) (hc60 : c ≤ 60) (hs1 : R.1 r 11 = xI sn) (hsn : sn < 2600) :
    (∃ M' R' k' s' e', c < 60 ∧ k = 3 ∧ F_QG_readComparison (q + 6) (ct M k s e) = some (1, ct M' k' s' e') ∧ F_MD_comparison mr = F_MD_read (rt (sayC R' r c sn) k' s' e') ∧ ZQ M' R' n D Ms q r ∧ CmpR M' R' q r D c ∧ fr (pP (q + 16 + 2 * c)) (qP (q + 16 + 2 * c)) M M' ∧ fr pR (qPr r) R R' ∧ kpN R R' r c ∧ e' ≤ n ∧ e < e') ∨
    (∃ mc mr', F_QG_readComparison (q + 6) (ct M k s e) = some (0, mc) ∧ F_MD_comparison mr = some mr' ∧ Flt mc mr' ∧ fr (pW q) (qW q) M mc ∧ fr (pWr r) (qWr r) R mr') := by
  have hq := hz.2.2.2.2.2.1
  have hr := hz.2.2.2.2.2.2
  have hr1 := hz.2.2.2.2.1
  have h5 := Zl_5 hz.1
  have hD8 := hz.2.1.2.2.1
  have cq : (ct M k s e).1 (q + 6) 0 = xI c := by
    rw [ct_o _ _ _ _ _ (by omega)]; exact hc
  have full : F_CN_isFull (q + 6) (ct M k s e) = some (bI (decide (c = 60)), ct M k s e) := by
    unfold F_CN_isFull B_CN_isFull_14
    rw [cq]
    simp only [show (xI c < 60) = (c < 60) from xI_lt (b := 60) (by omega) (by omega)]
    by_cases z : c = 60
    · rw [if_neg (show ¬ c < 60 by omega), decide_eq_true z]; rfl
    · rw [if_pos (show c < 60 by omega), decide_eq_false z]; rfl
  have hC : F_QG_readComparison (q + 6) (ct M k s e) = (F_QG_readColumn (bI (decide (c = 60))) (ct M k s e)).bind fun r7 => (if bI (decide (c = 60)) = 0 then (if r7.1 = ((-1)) then B_QG_readComparison_20 (q + 6) r7.2 else ((F_CN_coming (q + 6) r7.2).bind fun r23 => (if x_cp r23.1 = true then ((F_CP_restart r23.1 r7.1 r23.2).bind fun r31 => ((F_LX_advance r31).bind fun r38 => cmpC (q + 6) r23.1 r38)) else none))) else B_QG_readComparison_20 (q + 6) r7.2) := by
    unfold F_QG_readComparison
    rw [full]
    rfl
  have m8 : mr.1 387 8 = xI s := by
    rcases hs with ⟨_, _, z⟩ | ⟨_, e2, z⟩ <;> subst z <;> rfl
  have hR : F_MD_comparison mr = (F_MD_columnsDimension mr).bind fun r6 => (if x_mq (r6.2.2.2.1 387 22) = true then (if 60 ≤ (r6.2.1 (r6.2.2.2.1 387 22) 13) then B_MD_comparison_28 (xI s) r6.1 0 r6.2 else B_MD_comparison_28 (xI s) r6.1 1 r6.2) else none) := by
    unfold F_MD_comparison
    rw [m8]
  have h28 : ∀ (l1 l2 : Int32) (m : x_m), m.1 387 5 = 0 → m.2.2.1 387 22 = r → m.1 r 13 = xI c → c < 60 → B_MD_comparison_28 l1 l2 1 m = (F_MD_columnsLevel l2 m).bind fun r56 => (F_MD_read (x_wA r56.2 (r + 9) c r56.1)).bind fun r61 => howC (xI c) r61 := by
    intro l1 l2 m a1 a2 a3 a4
    unfold B_MD_comparison_28
    rw [F_MD_want_1 m _ _ a1, Option.bind_some]
    simp only [show ((1 : Int32) = 0) = False from by decide, if_false, a2, y_mq hr, if_true, a3]
    rw [xI_ix (by omega), xI_cl (by omega)]
    simp only [show (decide (c < 60) = true) = True from by simp; omega, if_true]
    rfl
  have i60 : (60 ≤ xI c) = (60 ≤ c) := xI_le (a := 60) (by omega) (by omega)
  rw [hC, hR]
  simp only [bI_0]
  rcases ls_column (decide (c = 60)) hz hs ht with ⟨mc, mr', c1, c2, c3, c4, c5⟩ | ⟨j, j1, j2, j3, ⟨z, c1⟩ | ⟨z, ⟨mc, mr', c1, c2, c3, c4, c5⟩ | ⟨col, s', e', c1, c2, c3, c4, c5, c6, c7, c8⟩⟩⟩
  · right
    rw [c1, c2, Option.bind_some, Option.bind_some]
    simp only [if_true]
    have rq : mr'.2.2.1 387 22 = r := (c5.2.2.1 _ _ (by omega)).trans hr1
    rw [rq, if_pos (y_mq hr)]
    have e28 : ∀ s0, B_MD_comparison_28 (xI s) 0 s0 mr' = some mr' := by
      intro s0
      unfold B_MD_comparison_28
      rw [F_MD_want_f mr' _ _ _ (ne_pos c3.2.2)]; rfl
    rw [e28, e28]
    refine ⟨mc, mr', ?_, by split <;> rfl, c3, upw c4, upwr c5⟩
    unfold B_QG_readComparison_20
    split <;> rfl
  · right
    have z60 : c = 60 := of_decide_eq_true z
    subst j2
    rw [c1, j3, Option.bind_some, Option.bind_some]
    simp only []
    rw [show (rt R 3 s e).2.2.1 387 22 = r from hr1, if_pos (y_mq hr), show (rt R 3 s e).1 r 13 = xI c from (show (if r = 387 then _ else R.1 r 13) = xI c by rw [if_neg (by omega)]; exact hcr)]
    simp only [i60]
    rw [if_pos (show 60 ≤ c by omega), if_neg (by rw [z]; decide)]
    unfold B_MD_comparison_28 B_QG_readComparison_20
    rw [F_MD_want_0 (rt R 3 s e) 7 _ h5 (by decide), Option.bind_some]
    exact ⟨_, _, rfl, rfl, Flt_cr _ _ _ _ (by decide), upw (fr_trans (fr_ct _ _ _ _) (fr_cf _ _ _)), upwr (fr_trans (fr_rt _ _ _ _) (fr_rf _ _ _))⟩
  · right
    have z60 : ¬ c = 60 := of_decide_eq_false z
    subst j2
    rw [c1, j3, Option.bind_some, Option.bind_some]
    simp only []
    rw [show (rt R 3 s e).2.2.1 387 22 = r from hr1, if_pos (y_mq hr), show (rt R 3 s e).1 r 13 = xI c from (show (if r = 387 then _ else R.1 r 13) = xI c by rw [if_neg (by omega)]; exact hcr)]
    simp only [i60]
    rw [if_neg (show ¬ 60 ≤ c by omega), if_pos z, if_pos trivial, h28 _ _ (rt R 3 s e) h5 hr1 (show (if r = 387 then _ else R.1 r 13) = xI c by rw [if_neg (by omega)]; exact hcr) (by omega), c2, Option.bind_some]
    simp only []
    rw [F_MD_read_f _ (show 0 < (x_wA mr' (r + 9) c 0).1 387 5 from c3.2.2), Option.bind_some, howC_f _ _ (show (x_wA mr' (r + 9) c 0).1 387 5 ≠ 0 from ne_pos c3.2.2)]
    exact ⟨mc, _, rfl, rfl, Flt_wA c3 _ _ _, upw c4, fr_trans (upwr c5) (fr_wA _ _ _ _ (by unfold qWr; omega))⟩
  · have z60 : ¬ c = 60 := of_decide_eq_false z
    have hc' : c < 60 := by omega
    subst j2
    rw [c4, j3, Option.bind_some, Option.bind_some]
    simp only []
    rw [show (rt R 3 s e).2.2.1 387 22 = r from hr1, if_pos (y_mq hr), show (rt R 3 s e).1 r 13 = xI c from (show (if r = 387 then _ else R.1 r 13) = xI c by rw [if_neg (by omega)]; exact hcr)]
    simp only [i60]
    rw [if_neg (show ¬ 60 ≤ c by omega), if_pos z, if_neg (xI_neg1 (by omega)), h28 _ _ (rt R 3 s e) h5 hr1 (show (if r = 387 then _ else R.1 r 13) = xI c by rw [if_neg (by omega)]; exact hcr) (by omega), c5, Option.bind_some]
    simp only []
    unfold F_CN_coming F_CP_restart
    rw [show (ct M 3 s' e').1 (q + 6) 0 = xI c from (ct_o M 3 s' e' 0 (show q + 6 ≠ 3 by omega)).trans hc, xI_ix (by omega), if_pos (show decide (c < 60) = true by simp; omega), xI_cl (by omega), Option.bind_some]
    simp only []
    rw [if_pos (y_cp hq hc'), Option.bind_some, ct_wS _ _ _ _ _ (by omega), ct_wS _ _ _ _ _ (by omega), ct_wS _ _ _ _ _ (by omega), rt_wA]
    rw [show q + 6 + 10 + 2 * c = q + 16 + 2 * c by omega]
    have fM1 : fr (pP (q + 16 + 2 * c)) (qP (q + 16 + 2 * c)) M (x_wS (x_wS (x_wS M (q + 16 + 2 * c) 0 (xI col)) (q + 16 + 2 * c) 1 0) (q + 16 + 2 * c) 4 0) := fr_trans (fr_wS _ _ _ _ (Or.inr rfl)) (fr_trans (fr_wS _ _ _ _ (Or.inr rfl)) (fr_wS _ _ _ _ (Or.inr rfl)))
    have fR1 : fr pR (qPr r) R (x_wA R (r + 9) c (xI col)) := fr_wA _ _ _ _ (by unfold qPr; omega)
    have kR1 : kpN R (x_wA R (r + 9) c (xI col)) r c := kpN_wA _ _ (by omega)
    have z1 : ZQ (x_wS (x_wS (x_wS M (q + 16 + 2 * c) 0 (xI col)) (q + 16 + 2 * c) 1 0) (q + 16 + 2 * c) 4 0) (x_wA R (r + 9) c (xI col)) n D Ms q r := ZQ_P hc' hz fM1 fR1 (Fz_S (Fz_S (Fz_S (Fz_Ar (Zl_f hz.1)) (by omega)) (by omega)) (by omega))
    have a0 : (x_wS (x_wS (x_wS M (q + 16 + 2 * c) 0 (xI col)) (q + 16 + 2 * c) 1 0) (q + 16 + 2 * c) 4 0).1 (q + 16 + 2 * c) 0 = xI col := by
      show (if q + 16 + 2 * c = q + 16 + 2 * c ∧ 0 = 4 then _ else if q + 16 + 2 * c = q + 16 + 2 * c ∧ 0 = 1 then _ else if q + 16 + 2 * c = q + 16 + 2 * c ∧ 0 = 0 then _ else _) = _
      rw [if_neg (by omega), if_neg (by omega), if_pos ⟨rfl, rfl⟩]
    have a1 : (x_wS (x_wS (x_wS M (q + 16 + 2 * c) 0 (xI col)) (q + 16 + 2 * c) 1 0) (q + 16 + 2 * c) 4 0).1 (q + 16 + 2 * c) 1 = 0 := by
      show (if q + 16 + 2 * c = q + 16 + 2 * c ∧ 1 = 4 then _ else if q + 16 + 2 * c = q + 16 + 2 * c ∧ 1 = 1 then _ else _) = _
      rw [if_neg (by omega), if_pos ⟨rfl, rfl⟩]
    have a4 : (x_wS (x_wS (x_wS M (q + 16 + 2 * c) 0 (xI col)) (q + 16 + 2 * c) 1 0) (q + 16 + 2 * c) 4 0).1 (q + 16 + 2 * c) 4 = 0 := by
      show (if q + 16 + 2 * c = q + 16 + 2 * c ∧ 4 = 4 then _ else _) = _
      rw [if_pos ⟨rfl, rfl⟩]
    have b9 : (x_wA R (r + 9) c (xI col)).2.1 (r + 9) c = xI col := by
      show (if r + 9 = r + 9 ∧ c = c then _ else _) = _
      rw [if_pos ⟨rfl, rfl⟩]
    generalize x_wS (x_wS (x_wS M (q + 16 + 2 * c) 0 (xI col)) (q + 16 + 2 * c) 1 0) (q + 16 + 2 * c) 4 0 = M1 at *
    generalize x_wA R (r + 9) c (xI col) = R1 at *
    obtain ⟨M3, R3, mr3, k3, s3, e3, i1, i2, i3, i4, i5, i6, i7, i8, i9⟩ := stepQ z1 (k := 3) (s := s') c7
    rw [i1, i2, Option.bind_some, Option.bind_some]
    have hL : ∃ L, M3.1 (9 + 13 * (col / 4)) 0 = xI L ∧ L ≤ 4 ∧ col % 4 < L := by
      obtain ⟨L, l1, l2, l3⟩ := c3
      refine ⟨L, ?_, l2, l3⟩
      rw [c2, i5.1 _ _ (by unfold pC; omega), fM1.1 _ _ (by unfold pP; omega)]; exact l1
    have fc := upCP (cp := q + 16 + 2 * c) i5
    have fr3 := upRP (r := r) i6
    have := i7.1
    have := i7.2.2.1
    rcases ls_how (sn := sn) hc' i4 i3 i7 ((i5.1 _ _ (by unfold pC; omega)).trans a0) ((i5.1 _ _ (by unfold pC; omega)).trans a1) ((i5.1 _ _ (by unfold pC; omega)).trans a4) ((congrFun (i6.2.1 _ id) c).trans b9) c1 (by omega) hL ((fr_trans fR1 fr3).1 _ _ (by unfold pR; omega) |>.trans hcr) ((fr_trans fR1 fr3).1 _ _ (by unfold pR; omega) |>.trans hs1) hsn with ⟨M', R', k', s'', e'', v1, v2, v3, v4, v5, v6, v7, v8, v9⟩ | ⟨mc, mr', v1, v2, v3, v4, v5⟩
    · left
      exact ⟨M', R', k', s'', e'', hc', by trivial, v1, v2, v3, v4, fr_trans fM1 (fr_trans fc v5), fr_trans fR1 (fr_trans fr3 v6), kpN_trans kR1 (kpN_trans (kpN_fr i6) v7), v8, by omega⟩
    · right
      exact ⟨mc, mr', v1, v2, v3, fr_trans (upPQ hc' (fr_trans fM1 fc)) v4, fr_trans (upPQr (fr_trans fR1 fr3)) v5⟩
