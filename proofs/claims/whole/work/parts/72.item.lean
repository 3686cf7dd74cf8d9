/-! items -/
theorem y_mq {r : Nat} (h : r = 395 ∨ r = 409) : x_mq r = true := by unfold x_mq; simp; omega
theorem y_qb {q : Nat} (h : q = 115 ∨ q = 251) : x_qb q = true := by unfold x_qb; simp; omega
def ity (k : Nat) : Nat := if k = 27 then 1 else if k = 29 then 2 else if k = 30 then 3 else if k = 28 then 4 else if k = 26 then 5 else 0
theorem ity_le (k : Nat) : ity k ≤ 5 := by
  unfold ity
  repeat' split
  all_goals omega
theorem F_QG_itemType_eq {k : Nat} (hk : k ≤ 36) (m : x_m) : F_QG_itemType (kRf k) m = some (xI (ity k), m) := by
  unfold F_QG_itemType B_QG_itemType_48 ity
  simp only [kRf_kv hk, if_true, kRf_is (j := 27) hk (by omega) (by omega), kRf_is (j := 29) hk (by omega) (by omega), kRf_is (j := 30) hk (by omega) (by omega), kRf_is (j := 28) hk (by omega) (by omega), kRf_is (j := 26) hk (by omega) (by omega)]
  repeat' split
  all_goals rfl
theorem F_MD_item0_eq (R : x_m) {k s e : Nat} (hk : k ≤ 36) (h1 : k ≠ 1) (h36 : k ≠ 36) : F_MD_item0 (rt R k s e) = B_MD_item0_71 (xI s) (xI (ity k)) (rt R k s e) := by
  have w10 : F_MD_isWord 10 (rt R k s e) = _ := F_MD_isWord_eq R (s := s) (e := e) hk h1 h36 (w := 10) (by omega)
  have w12 : F_MD_isWord 12 (rt R k s e) = _ := F_MD_isWord_eq R (s := s) (e := e) hk h1 h36 (w := 12) (by omega)
  have w13 : F_MD_isWord 13 (rt R k s e) = _ := F_MD_isWord_eq R (s := s) (e := e) hk h1 h36 (w := 13) (by omega)
  have w11 : F_MD_isWord 11 (rt R k s e) = _ := F_MD_isWord_eq R (s := s) (e := e) hk h1 h36 (w := 11) (by omega)
  have w9 : F_MD_isWord 9 (rt R k s e) = _ := F_MD_isWord_eq R (s := s) (e := e) hk h1 h36 (w := 9) (by omega)
  unfold F_MD_item0 ity
  simp only [w10, w12, w13, w11, w9, Option.bind_some, bI_0, decide_eq_false_iff_not, Nat.reduceAdd]
  rw [show (rt R k s e).1 387 8 = xI s from rfl]
  by_cases a : k = 27
  · simp [a]; rfl
  · by_cases b : k = 29
    · simp [b]; rfl
    · by_cases c : k = 30
      · simp [c]; rfl
      · by_cases d : k = 28
        · simp [d]; rfl
        · by_cases f : k = 26
          · simp [f]; rfl
          · simp [a, b, c, d, f]; rfl
theorem item84_f (l1 l2 s0 : Int32) (m : x_m) (h : m.1 387 5 ≠ 0) (hq : x_mq (m.2.2.1 387 22) = true) : B_MD_item0_84 l1 l2 s0 m = some m := by
  unfold B_MD_item0_84 B_MD_item0_103
  rw [if_pos hq, F_MD_want_f m _ _ _ h, F_MD_want_f m _ _ _ h]
  split <;> rfl
theorem F_MD_item0_f (m : x_m) (h : m.1 387 5 ≠ 0) (hq : x_mq (m.2.2.1 387 22) = true) : F_MD_item0 m = some m := by
  have a : ∀ l1 s0, B_MD_item0_71 l1 s0 m = some m := by
    intro l1 s0
    unfold B_MD_item0_71
    simp only [F_MD_columnsDimension_f m h, Option.bind_some, item84_f _ _ _ m h hq]
    split <;> rfl
  obtain ⟨b1, e1⟩ := F_MD_isWord_any 10 m
  obtain ⟨b2, e2⟩ := F_MD_isWord_any 12 m
  obtain ⟨b3, e3⟩ := F_MD_isWord_any 13 m
  obtain ⟨b4, e4⟩ := F_MD_isWord_any 11 m
  obtain ⟨b5, e5⟩ := F_MD_isWord_any 9 m
  unfold F_MD_item0
  simp only [e1, e2, e3, e4, e5, Option.bind_some, a]
  repeat' split
  all_goals rfl
/-- an item put into the draft, and into the reference's next -/
def addI (m : x_m) (q ni : Nat) (t tg pl : Int32) : x_m := x_wS (x_wA (x_wA (x_wA m (q + 1) ni t) (q + 2) ni tg) (q + 3) ni pl) q 0 (xI (ni + 1))
theorem F_QU_addItem_eq {m : x_m} {q ni : Nat} (t tg pl : Int32) (h : m.1 q 0 = xI ni) (hn : ni < 24) : F_QU_addItem q t tg pl m = some (addI m q ni t tg pl) := by
  unfold F_QU_addItem B_QU_addItem_49 addI
  simp only [xw_A1, h]
  rw [if_neg (by show ¬ (xI 24 ≤ _); rw [xI_le (by omega) (by omega)]; omega), xI_ix (by omega), xI_cl (by omega), xI_add1]
  simp only [show (decide (ni < 24) = true) = True from by simp; omega, if_true]
theorem F_QU_addItem_full {m : x_m} {q : Nat} (t tg pl : Int32) (h : m.1 q 0 = xI 24) : F_QU_addItem q t tg pl m = some m := by
  unfold F_QU_addItem B_QU_addItem_49
  rw [h, if_pos (by decide)]
theorem item234_eq {m : x_m} {r ni : Nat} (l1 l2 l4 : Int32) (hr : m.2.2.1 387 22 = r) (hq : r = 395 ∨ r = 409) (h : m.1 r 0 = xI ni) (hn : ni < 24) : B_MD_item0_234 l1 l2 l4 m = some (addI m r ni l2 l4 l1) := by
  unfold B_MD_item0_234 addI
  simp only [xw_A1, xw_A3, hr, y_mq hq, if_true, h]
  rw [xI_ix (by omega), xI_cl (by omega), xI_add1]
  simp only [show (decide (ni < 24) = true) = True from by simp; omega, if_true]
theorem addI_ct (M : x_m) (k s e : Nat) {q : Nat} (hq : q = 115 ∨ q = 251) (ni : Nat) (t tg pl : Int32) : addI (ct M k s e) q ni t tg pl = ct (addI M q ni t tg pl) k s e := by
  unfold addI
  rw [ct_wA, ct_wA, ct_wA, ct_wS _ _ _ _ _ (by omega)]
theorem addI_rt (M : x_m) (k s e : Nat) {r : Nat} (hr : r = 395 ∨ r = 409) (ni : Nat) (t tg pl : Int32) : addI (rt M k s e) r ni t tg pl = rt (addI M r ni t tg pl) k s e := by
  unfold addI
  rw [rt_wA, rt_wA, rt_wA, rt_wS _ _ _ _ _ (by omega)]
theorem fr_addI (M : x_m) (q ni : Nat) (t tg pl : Int32) : fr (pQ q) (qQ q) M (addI M q ni t tg pl) := by
  unfold addI
  exact fr_trans (fr_wA _ _ _ _ (by unfold qQ; omega)) (fr_trans (fr_wA _ _ _ _ (by unfold qQ; omega)) (fr_trans (fr_wA _ _ _ _ (by unfold qQ; omega)) (fr_wS _ _ _ _ (by unfold pQ; omega))))
theorem fr_addIr (M : x_m) (r ni : Nat) (t tg pl : Int32) : fr (pQr r) (qQr r) M (addI M r ni t tg pl) := by
  unfold addI
  exact fr_trans (fr_wA _ _ _ _ (by unfold qQr; omega)) (fr_trans (fr_wA _ _ _ _ (by unfold qQr; omega)) (fr_trans (fr_wA _ _ _ _ (by unfold qQr; omega)) (fr_wS _ _ _ _ (by unfold pQr; omega))))
theorem addI_2 (M : x_m) (q ni : Nat) (t tg pl : Int32) (a i : Nat) : (addI M q ni t tg pl).2.1 a i = if a = q + 3 ∧ i = ni then pl else if a = q + 2 ∧ i = ni then tg else if a = q + 1 ∧ i = ni then t else M.2.1 a i := rfl
def pI (q a b : Nat) : Prop := a = 3 ∨ (a = q ∧ b = 0)
def qI (q a : Nat) : Prop := a = q + 1 ∨ a = q + 2 ∨ a = q + 3
def pIr (r a b : Nat) : Prop := (a = 387 ∧ 5 ≤ b ∧ b ≤ 12) ∨ (a = r ∧ b = 0)
def qIr (r a : Nat) : Prop := a = r + 1 ∨ a = r + 2 ∨ a = r + 3
theorem upI {q : Nat} {m m' : x_m} (h : fr (pI q) (qI q) m m') : fr (pQ q) (qQ q) m m' := fr_mono h (fun a b z => by unfold pI at z; unfold pQ; omega) (fun a z => by unfold qI at z; unfold qQ; omega)
theorem upIr {r : Nat} {m m' : x_m} (h : fr (pIr r) (qIr r) m m') : fr (pQr r) (qQr r) m m' := fr_mono h (fun a b z => by unfold pIr at z; unfold pQr; omega) (fun a z => by unfold qIr at z; unfold qQr; omega)
theorem upCI {q : Nat} {m m' : x_m} (h : fr pC q0 m m') : fr (pI q) (qI q) m m' := fr_mono h (fun _ _ z => Or.inl z) (fun _ z => z.elim)
theorem upRI {r : Nat} {m m' : x_m} (h : fr pR q0 m m') : fr (pIr r) (qIr r) m m' := fr_mono h (fun _ _ z => Or.inl z) (fun _ z => z.elim)
theorem fr_addI' (M : x_m) (q ni : Nat) (t tg pl : Int32) : fr (pI q) (qI q) M (addI M q ni t tg pl) := by
  unfold addI
  exact fr_trans (fr_wA _ _ _ _ (by unfold qI; omega)) (fr_trans (fr_wA _ _ _ _ (by unfold qI; omega)) (fr_trans (fr_wA _ _ _ _ (by unfold qI; omega)) (fr_wS _ _ _ _ (by unfold pI; omega))))
theorem fr_addIr' (M : x_m) (r ni : Nat) (t tg pl : Int32) : fr (pIr r) (qIr r) M (addI M r ni t tg pl) := by
  unfold addI
  exact fr_trans (fr_wA _ _ _ _ (by unfold qIr; omega)) (fr_trans (fr_wA _ _ _ _ (by unfold qIr; omega)) (fr_trans (fr_wA _ _ _ _ (by unfold qIr; omega)) (fr_wS _ _ _ _ (by unfold pIr; omega))))
/-- items are the same -/
def QI (M R : x_m) (q r ni : Nat) : Prop := ni ≤ 24 ∧ M.1 q 0 = xI ni ∧ R.1 r 0 = xI ni ∧ ∀ i, i < ni → (∃ t, t ≤ 5 ∧ M.2.1 (q + 1) i = xI t ∧ R.2.1 (r + 1) i = xI t) ∧ M.2.1 (q + 2) i = R.2.1 (r + 2) i ∧ (∃ p, p ≤ 20000 ∧ M.2.1 (q + 3) i = xI p ∧ R.2.1 (r + 3) i = xI p)
theorem Fz_addI {M R : x_m} (h : Fz M R) {q r : Nat} (hq : q = 115 ∨ q = 251) (hr : r = 395 ∨ r = 409) (ni : Nat) (t tg pl : Int32) (ni' : Nat) (t' tg' pl' : Int32) : Fz (addI M q ni t tg pl) (addI R r ni' t' tg' pl') := Fz_S (M := x_wA (x_wA (x_wA M (q + 1) ni t) (q + 2) ni tg) (q + 3) ni pl) (Fz_Sr (R := x_wA (x_wA (x_wA R (r + 1) ni' t') (r + 2) ni' tg') (r + 3) ni' pl') h (by omega)) (by omega)
theorem QI_add {M R : x_m} {q r ni : Nat} (h : QI M R q r ni) (hn : ni < 24) {t p : Nat} (ht : t ≤ 5) (hp : p ≤ 20000) (tg : Int32) : QI (addI M q ni (xI t) tg (xI p)) (addI R r ni (xI t) tg (xI p)) q r (ni + 1) := by
  obtain ⟨a1, a2, a3, a4⟩ := h
  refine ⟨by omega, ?_, ?_, fun i hi => ?_⟩
  · show (if q = q ∧ 0 = 0 then _ else _) = _; rw [if_pos ⟨rfl, rfl⟩]
  · show (if r = r ∧ 0 = 0 then _ else _) = _; rw [if_pos ⟨rfl, rfl⟩]
  · simp only [addI_2]
    by_cases e : i = ni
    · subst e
      refine ⟨⟨t, ht, ?_, ?_⟩, ?_, ⟨p, hp, ?_, ?_⟩⟩
      · simp
      · simp
      · simp
      · simp
      · simp
    · simp only [e, and_false, if_false]
      exact a4 i (by omega)
theorem QI_fr {M R M' R' : x_m} {q r ni : Nat} (h : QI M R q r ni) (f : fr pC q0 M M') (g : fr pR q0 R R') (hq : q = 115 ∨ q = 251) (hr : r = 395 ∨ r = 409) : QI M' R' q r ni := by
  obtain ⟨a1, a2, a3, a4⟩ := h
  refine ⟨a1, (f.1 _ _ (by unfold pC; omega)).trans a2, (g.1 _ _ (by unfold pR; omega)).trans a3, fun i hi => ?_⟩
  rw [f.2.1 _ id, f.2.1 _ id, f.2.1 _ id, g.2.1 _ id, g.2.1 _ id, g.2.1 _ id]
  exact a4 i hi
/-- what stands in an item's brackets -/
def tgC (t : Int32) (r84 : x_m) : Option (Int32 × x_m) := if t = 5 then F_QG_readColumn 0 r84 else F_QG_readSummed t r84
def tgR (l1 l2 : Int32) (r139 : x_m) : Option x_m := (if 4 ≤ l2 then (if l2 = 4 then ((F_MD_isSign 42 r139).bind fun r203 => ((F_MD_must r203.1 r203.2).bind fun r206 => B_MD_item0_226 l1 l2 0 r206.2)) else ((F_MD_columnsDimension r139).bind fun r215 => ((F_MD_columnsLevel r215.1 r215.2).bind fun r221 => B_MD_item0_226 l1 l2 r221.1 r221.2))) else ((F_MD_name r139).bind fun r148 => (if r148.1 = 0 then B_MD_item0_168 l1 l2 0 r148.2 else ((F_MD_among 40 (r148.2.1 387 18) r148.2).bind fun r161 => B_MD_item0_168 l1 l2 r161.1 r161.2))))
theorem item226_f (l1 l2 l4 : Int32) (m : x_m) (h : 0 < m.1 387 5) : B_MD_item0_226 l1 l2 l4 m = B_MD_item0_234 l1 l2 l4 m := by
  unfold B_MD_item0_226
  rw [F_MD_needSign_f m _ h]
  rfl
theorem tgR_f (l1 l2 : Int32) (m : x_m) (h : 0 < m.1 387 5) : tgR l1 l2 m = B_MD_item0_234 l1 l2 0 m := by
  obtain ⟨b, hb⟩ := F_MD_isSign_any 42 m
  unfold tgR
  simp only [hb, Option.bind_some, F_MD_must_f m _ (ne_pos h), F_MD_columnsDimension_f m (ne_pos h), F_MD_columnsLevel_f m _ h, F_MD_name_f m (ne_pos h), item226_f _ _ _ m h, if_true]
  unfold B_MD_item0_168 B_MD_item0_181
  simp only [F_MD_want_f m _ _ _ (ne_pos h), Option.bind_some, item226_f _ _ _ m h]
  repeat' split
  all_goals rfl
theorem ls_target {M R mr : x_m} {n D Ms q r e0 k s e t : Nat} (l1 : Int32) (h : ZQ M R n D Ms q r) (hs : RS R mr k s e) (ht : TF n e0 k s e) (ht1 : 1 ≤ t) (ht5 : t ≤ 5) :
    (∃ v k' s' e', v ≤ 40 ∧ tgC (xI t) (ct M k s e) = some (xI v, ct M k' s' e') ∧ tgR l1 (xI t) mr = B_MD_item0_226 l1 (xI t) (xI v) (rt R k' s' e') ∧ e' ≤ n ∧ e ≤ e') ∨
    (∃ mc mr' a, tgC (xI t) (ct M k s e) = some (-1, mc) ∧ tgR l1 (xI t) mr = B_MD_item0_234 l1 (xI t) a mr' ∧ Flt mc mr' ∧ fr pC q0 M mc ∧ fr pR q0 R mr') := by
  have h4 := h.1
  obtain ⟨d1, d2, d3, d4, d5, d6⟩ := h.2.1
  have ht' := ht
  obtain ⟨u1, u2, u3, u4, u5, u6, u7⟩ := ht
  unfold tgC tgR
  simp only [show (xI t = 5) = (t = 5) from xI_eq (b := 5) (by omega) (by omega), show (xI t = 4) = (t = 4) from xI_eq (b := 4) (by omega) (by omega), show (4 ≤ xI t) = (4 ≤ t) from xI_le (a := 4) (by omega) (by omega)]
  by_cases t5 : t = 5
  · rw [if_pos t5, if_pos (show 4 ≤ t by omega), if_neg (show ¬ t = 4 by omega)]
    rcases ls_column false h hs ht' with ⟨mc, mr', c1, c2, c3, c4, c5⟩ | ⟨j, j1, j2, j3, ⟨z, _⟩ | ⟨_, ⟨mc, mr', c1, c2, c3, c4, c5⟩ | ⟨c, s', e', c1, c2, c3, c4, c5, c6, c7, c8⟩⟩⟩
    · right
      rw [show F_QG_readColumn 0 (ct M k s e) = _ from c1, c2, Option.bind_some]
      simp only [F_MD_columnsLevel_f mr' _ c3.2.2, Option.bind_some]
      exact ⟨mc, mr', 0, rfl, item226_f _ _ _ _ c3.2.2, c3, c4, c5⟩
    · exact absurd z (by decide)
    · right
      rw [show F_QG_readColumn 0 (ct M k s e) = _ from c1, j3, Option.bind_some]
      simp only [c2, Option.bind_some]
      exact ⟨mc, mr', 0, rfl, item226_f _ _ _ _ c3.2.2, c3, c4, c5⟩
    · left
      rw [show F_QG_readColumn 0 (ct M k s e) = _ from c4, j3, Option.bind_some]
      simp only [c5, Option.bind_some]
      exact ⟨c, 3, s', e', by omega, rfl, rfl, c7, by omega⟩
  · rw [if_neg t5]
    unfold F_QG_readSummed B_QG_readSummed_23
    simp only [show (xI t = 4) = (t = 4) from xI_eq (b := 4) (by omega) (by omega)]
    by_cases t4 : t = 4
    · rw [if_pos t4, if_pos (show 4 ≤ t by omega), if_pos t4, F_LX_at_eq M u4 (by omega) (by omega)]
      by_cases hb : k = 1 ∨ k = 36
      · right
        obtain ⟨b1, b2, b3⟩ := RS_bad hs hb
        have hp : 0 < mr.1 387 5 := by rw [b1]; exact kUn_pos k
        obtain ⟨b, hbb⟩ := F_MD_isSign_any 42 mr
        rw [if_neg (show ¬ k = 10 by omega), hbb, Option.bind_some, Option.bind_some]
        simp only [F_MD_must_f mr _ (ne_pos hp), Option.bind_some, if_true]
        exact ⟨_, mr, 0, rfl, item226_f _ _ _ _ hp, ⟨by rw [b1]; rfl, by rw [b2]; rfl, hp⟩, fr_trans (fr_ct _ _ _ _) (fr_cf _ _ _), b3⟩
      · have g1 : k ≠ 1 := fun z => hb (Or.inl z)
        have g2 : k ≠ 36 := fun z => hb (Or.inr z)
        have eq := RS_good hs g1 g2
        subst eq
        have is : F_MD_isSign 42 (rt R k s e) = _ := F_MD_isSign_eq R (s := s) (e := e) u4 g1 g2 (j := 10) (by omega) (by omega)
        rw [is, Option.bind_some]
        by_cases k10 : k = 10
        · left
          rw [if_pos k10, decide_eq_true k10, Option.bind_some]
          simp only [show bI true = 1 from rfl, F_MD_must_1 (rt R k s e) (Zl_5 h4), Option.bind_some]
          exact ⟨0, k, s, e, by omega, rfl, rfl, u2, by omega⟩
        · right
          rw [if_neg k10, decide_eq_false k10, Option.bind_some]
          simp only [show bI false = 0 from rfl, F_MD_must_0 R (s := s) (e := e) u4 g1 g2 (Zl_5 h4), Option.bind_some, if_true]
          exact ⟨_, _, 0, rfl, item226_f _ _ _ _ (kUn_pos k), Flt_cr _ _ _ _ (kUn_pos k), fr_trans (fr_ct _ _ _ _) (fr_cf _ _ _), fr_trans (fr_rt _ _ _ _) (fr_rf _ _ _)⟩
    · rw [if_neg t4, if_neg (show ¬ 4 ≤ t by omega)]
      have hR : ((F_MD_name mr).bind fun r148 => (if r148.1 = 0 then B_MD_item0_168 l1 (xI t) 0 r148.2 else ((F_MD_among 40 (r148.2.1 387 18) r148.2).bind fun r161 => B_MD_item0_168 l1 (xI t) r161.1 r161.2))) = lkR (xI 40) (fun m => m.1 387 18) (fun a w m => B_MD_item0_226 l1 (xI t) a m) mr := by
        unfold lkR lkR.lkR2 B_MD_item0_168 B_MD_item0_181
        rfl
      rw [hR]
      obtain ⟨k1, k2⟩ := lkR_eq (fun a w m => B_MD_item0_226 l1 (xI t) a m) (first := 40) (cnt := Ms) h4.1 hs (Zl_5 h4) ht' (by omega) (fun m => m.1 387 18) d5
      rw [(Zl_nk h4).1, (Zl_nk h4).2.1, h4.2.2.2.2.1] at k1 k2
      rw [show (ct M k s e).1 4 3 = xI Ms from d4]
      rcases F_NM_read_eq (Zl_c h4) ht' (first := 40) (cnt := Ms) (by omega) with ⟨v, b1, b2, b3, b4⟩ | ⟨b1, b2⟩
      · left
        rw [show F_NM_read 40 (xI Ms) (ct M k s e) = _ from b4, k1 v b1 b2 b3]
        exact ⟨v, k, s, e, by omega, rfl, rfl, u2, by omega⟩
      · right
        obtain ⟨mr', a, y1, y2, y3, y4⟩ := k2 b1
        rw [show F_NM_read 40 (xI Ms) (ct M k s e) = _ from b2, y1]
        have hp : 0 < mr'.1 387 5 := by rw [y2]; exact nmX_pos k
        exact ⟨_, mr', a, rfl, item226_f _ _ _ _ hp, ⟨by rw [y2]; rfl, by rw [y3]; rfl, hp⟩, fr_trans (fr_ct _ _ _ _) (fr_cf _ _ _), y4⟩

theorem Flt_addI {mc mr : x_m} (h : Flt mc mr) {q : Nat} (hq : q = 115 ∨ q = 251) (ni : Nat) (t tg pl : Int32) : Flt (addI mc q ni t tg pl) mr := by
  refine ⟨?_, ?_, h.2.2⟩
  · show (if 3 = q ∧ 5 = 0 then _ else mc.1 3 5) = _
    rw [if_neg (by omega)]; exact h.1
  · show (if 3 = q ∧ 6 = 0 then _ else mc.1 3 6) = _
    rw [if_neg (by omega)]; exact h.2.1
theorem Flt_addIr {mc mr : x_m} (h : Flt mc mr) {r : Nat} (hr : r = 395 ∨ r = 409) (ni : Nat) (t tg pl : Int32) : Flt mc (addI mr r ni t tg pl) := by
  have e : ∀ b, (addI mr r ni t tg pl).1 387 b = mr.1 387 b := by
    intro b
    show (if 387 = r ∧ b = 0 then _ else mr.1 387 b) = _
    rw [if_neg (by omega)]
  exact ⟨h.1.trans (e 5).symm, h.2.1.trans (e 6).symm, by rw [e 5]; exact h.2.2⟩
theorem Zl_e {M R : x_m} {n : Nat} (h : Zl M R n) : n ≤ 20000 := h.1
/-- an item -/
theorem ls_item {M R mr : x_m} {n D Ms q r e0 k s e ni : Nat} (h : ZQ M R n D Ms q r) (hi : QI M R q r ni) (hs : RS R mr k s e) (ht : TF n e0 k s e) :
    (∃ M' R' k' s' e', ni < 24 ∧ F_QG_readItem (ct M k s e) = some (1, ct M' k' s' e') ∧ F_MD_item0 mr = some (rt R' k' s' e') ∧ ZQ M' R' n D Ms q r ∧ QI M' R' q r (ni + 1) ∧ fr (pI q) (qI q) M M' ∧ fr (pIr r) (qIr r) R R' ∧ e' ≤ n ∧ e ≤ e') ∨
    (∃ mc mr', F_QG_readItem (ct M k s e) = some (0, mc) ∧ F_MD_item0 mr = some mr' ∧ Flt mc mr' ∧ fr (pQ q) (qQ q) M mc ∧ fr (pQr r) (qQr r) R mr') := by
  have h4 := h.1
  obtain ⟨d1, d2, d3, d4, d5, d6⟩ := h.2.1
  obtain ⟨_, _, _, hq1, hr1, hq, hr⟩ := h
  have ht' := ht
  obtain ⟨u1, u2, u3, u4, u5, u6, u7⟩ := ht
  obtain ⟨i1, i2, i3, i4⟩ := hi
  have h' : ZQ M R n D Ms q r := ⟨h4, ⟨d1, d2, d3, d4, d5, d6⟩, by assumption, hq1, hr1, hq, hr⟩
  have hi' : QI M R q r ni := ⟨i1, i2, i3, i4⟩
  have hn := h4.1
  have hC : F_QG_readItem (ct M k s e) = B_QG_readItem_36 (xI s) (xI (ity k)) (bI (decide (ni = 24))) (ct M k s e) := by
    unfold F_QG_readItem
    rw [show (ct M k s e).2.2.1 3 1 = kRf k from rfl, F_QG_itemType_eq u4, Option.bind_some]
    simp only []
    rw [show (ct M k s e).2.2.1 114 4 = q from hq1, if_pos (y_qb hq), show (ct M k s e).1 q 0 = xI ni from (show (if q = 3 then _ else M.1 q 0) = xI ni by rw [if_neg (by omega)]; exact i2)]
    simp only [show (xI ni = 24) = (ni = 24) from xI_eq (b := 24) (by omega) (by omega)]
    by_cases z : ni = 24
    · rw [if_pos z, decide_eq_true z]; rfl
    · rw [if_neg z, decide_eq_false z]; rfl
  have it5 := ity_le k
  -- what the class does behind a column that failed
  have failA : ∀ (mc mr' : x_m), Flt mc mr' → fr pC q0 M mc → fr (pQr r) (qQr r) R mr' → ∀ l1 l2, ∃ mc', B_QG_readItem_128 l1 l2 (-1) mc = some (0, mc') ∧ Flt mc' mr' ∧ fr (pQ q) (qQ q) M mc' := by
    intro mc mr' f1 f2 f3 l1 l2
    have e1 : mc.2.2.1 114 4 = q := (f2.2.2.1 _ _ (by omega)).trans hq1
    have e2 : mc.1 q 0 = xI ni := (f2.1 _ _ (by unfold pC; omega)).trans i2
    unfold B_QG_readItem_128 B_QG_readItem_150
    rw [e1, if_pos (y_qb hq)]
    by_cases z : ni = 24
    · rw [F_QU_addItem_full _ _ _ (by rw [e2, z])]
      exact ⟨mc, rfl, f1, upq f2⟩
    · rw [F_QU_addItem_eq _ _ _ e2 (by omega)]
      exact ⟨_, rfl, Flt_addI f1 hq _ _ _ _, fr_trans (upq f2) (fr_addI _ _ _ _ _ _)⟩
  have mq : ∀ m : x_m, fr pR q0 R m → m.2.2.1 387 22 = r := fun m f => (f.2.2.1 _ _ (by omega)).trans hr1
  have m0 : ∀ m : x_m, fr pR q0 R m → m.1 r 0 = xI ni := fun m f => (f.1 _ _ (by unfold pR; omega)).trans i3
  by_cases hb : k = 1 ∨ k = 36
  · right
    obtain ⟨b1, b2, b3⟩ := RS_bad hs hb
    have hp : 0 < mr.1 387 5 := by rw [b1]; exact kUn_pos k
    rw [F_MD_item0_f mr (ne_pos hp) (by rw [mq mr b3]; exact y_mq hr), hC]
    have it0 : ity k = 0 := by unfold ity; rw [if_neg (by omega), if_neg (by omega), if_neg (by omega), if_neg (by omega), if_neg (by omega)]
    unfold B_QG_readItem_36
    rw [it0, if_pos (show xI 0 = 0 from rfl)]
    rcases ls_column (decide (ni = 24)) h' hs ht' with ⟨mc, mr', c1, c2, c3, c4, c5⟩ | ⟨j, j1, j2, _⟩
    · rw [c1, Option.bind_some]
      rw [F_MD_columnsDimension_f mr (ne_pos hp)] at c2
      have em : mr = mr' := by injection c2 with c2; exact congrArg Prod.snd c2
      subst em
      obtain ⟨mc', x1, x2, x3⟩ := failA mc mr c3 c4 (upqr c5) (xI s) (xI 0)
      exact ⟨mc', mr, x1, rfl, x2, x3, upqr c5⟩
    · omega
  · have g1 : k ≠ 1 := fun z => hb (Or.inl z)
    have g2 : k ≠ 36 := fun z => hb (Or.inr z)
    have eq := RS_good hs g1 g2
    subst eq
    rw [hC, F_MD_item0_eq R u4 g1 g2]
    unfold B_QG_readItem_36 B_MD_item0_71
    simp only [show (xI (ity k) = 0) = (ity k = 0) from xI_eq (b := 0) (by omega) (by omega)]
    by_cases t0 : ity k = 0
    · rw [if_pos t0, if_pos t0, t0]
      rcases ls_column (decide (ni = 24)) h' hs ht' with ⟨mc, mr', c1, c2, c3, c4, c5⟩ | ⟨j, j1, j2, j3, ⟨z, c1⟩ | ⟨z, ⟨mc, mr', c1, c2, c3, c4, c5⟩ | ⟨c, s', e', c1, c2, c3, c4, c5, c6, c7, c8⟩⟩⟩
      · right
        rw [c1, c2, Option.bind_some, Option.bind_some]
        simp only []
        rw [item84_f _ _ _ mr' (ne_pos c3.2.2) (by rw [mq mr' c5]; exact y_mq hr)]
        obtain ⟨mc', x1, x2, x3⟩ := failA mc mr' c3 c4 (upqr c5) (xI s) (xI 0)
        exact ⟨mc', mr', x1, rfl, x2, x3, upqr c5⟩
      · right
        have z24 : ni = 24 := of_decide_eq_true z
        rw [c1, j3, Option.bind_some, Option.bind_some]
        simp only []
        subst j2
        unfold B_MD_item0_84 B_MD_item0_103
        rw [show (rt R 3 s e).2.2.1 387 22 = r from hr1, if_pos (y_mq hr), show (rt R 3 s e).1 r 0 = xI ni from (show (if r = 387 then _ else R.1 r 0) = xI ni by rw [if_neg (by omega)]; exact i3), z24, if_pos (show (24 : Int32) ≤ xI 24 by decide), F_MD_want_0 (rt R 3 s e) 7 _ (Zl_5 h4) (by decide), Option.bind_some]
        simp only [if_true]
        have f1 := fr_trans (fr_ct M 3 s e) (fr_cf _ 7 (xI s))
        have f2 := fr_trans (fr_rt R 3 s e) (fr_rf _ 7 (xI s))
        obtain ⟨mc', x1, x2, x3⟩ := failA _ _ (Flt_cr (ct M 3 s e) (rt R 3 s e) 7 (xI s) (by decide)) f1 (upqr f2) (xI s) (xI 0)
        exact ⟨mc', _, x1, rfl, x2, x3, upqr f2⟩
      · right
        have z24 : ¬ ni = 24 := of_decide_eq_false z
        rw [c1, j3, Option.bind_some, Option.bind_some]
        simp only []
        subst j2
        unfold B_MD_item0_84 B_MD_item0_103
        rw [show (rt R 3 s e).2.2.1 387 22 = r from hr1, if_pos (y_mq hr), show (rt R 3 s e).1 r 0 = xI ni from (show (if r = 387 then _ else R.1 r 0) = xI ni by rw [if_neg (by omega)]; exact i3), if_neg (by show ¬ (xI 24 ≤ _); rw [xI_le (by omega) (by omega)]; omega), F_MD_want_1 (rt R 3 s e) 7 _ (Zl_5 h4), Option.bind_some]
        simp only [show ((1 : Int32) = 0) = False from by decide, if_false, show (xI 0 = 0) = True from by decide, if_true]
        rw [c2, Option.bind_some]
        simp only []
        rw [item234_eq _ _ _ (mq mr' c5) hr (m0 mr' c5) (by omega)]
        obtain ⟨mc', x1, x2, x3⟩ := failA mc mr' c3 c4 (upqr c5) (xI s) (xI 0)
        exact ⟨mc', _, x1, rfl, Flt_addIr x2 hr _ _ _ _, x3, fr_trans (upqr c5) (fr_addIr _ _ _ _ _ _)⟩
      · left
        have z24 : ¬ ni = 24 := of_decide_eq_false z
        rw [c4, j3, Option.bind_some, Option.bind_some]
        simp only []
        subst j2
        unfold B_MD_item0_84 B_MD_item0_103
        rw [show (rt R 3 s e).2.2.1 387 22 = r from hr1, if_pos (y_mq hr), show (rt R 3 s e).1 r 0 = xI ni from (show (if r = 387 then _ else R.1 r 0) = xI ni by rw [if_neg (by omega)]; exact i3), if_neg (by show ¬ (xI 24 ≤ _); rw [xI_le (by omega) (by omega)]; omega), F_MD_want_1 (rt R 3 s e) 7 _ (Zl_5 h4), Option.bind_some]
        simp only [show ((1 : Int32) = 0) = False from by decide, if_false, show (xI 0 = 0) = True from by decide, if_true]
        rw [c5, Option.bind_some]
        simp only []
        rw [item234_eq (m := rt R 3 s' e') _ _ _ hr1 hr (show (if r = 387 then _ else R.1 r 0) = xI ni by rw [if_neg (by omega)]; exact i3) (by omega), addI_rt _ _ _ _ hr]
        unfold B_QG_readItem_128 B_QG_readItem_150
        rw [show (ct M 3 s' e').2.2.1 114 4 = q from hq1, if_pos (y_qb hq), F_QU_addItem_eq (m := ct M 3 s' e') _ _ _ (show (if q = 3 then _ else M.1 q 0) = xI ni by rw [if_neg (by omega)]; exact i2) (by omega), addI_ct _ _ _ _ hq, Option.bind_some, if_neg (xI_neg1 (by omega))]
        refine ⟨addI M q ni (xI 0) (xI c) (xI s), addI R r ni (xI 0) (xI c) (xI s), 3, s', e', by omega, rfl, rfl, ZQ_fr h' (fr_addI _ _ _ _ _ _) (fr_addIr _ _ _ _ _ _) ?_, QI_add hi' (by omega) (by omega) (by omega) _, fr_addI' _ _ _ _ _ _, fr_addIr' _ _ _ _ _ _, c7, by omega⟩
        · exact Fz_addI (Zl_f h4) hq hr _ _ _ _ _ _ _ _
    · rw [if_neg t0, if_neg t0]
      simp only [bI_0]
      unfold B_MD_item0_84 B_MD_item0_103
      rw [show (rt R k s e).2.2.1 387 22 = r from hr1, if_pos (y_mq hr), show (rt R k s e).1 r 0 = xI ni from (show (if r = 387 then _ else R.1 r 0) = xI ni by rw [if_neg (by omega)]; exact i3)]
      by_cases z24 : ni = 24
      · right
        rw [decide_eq_true z24, if_neg (by decide), z24, if_pos (show (24 : Int32) ≤ xI 24 by decide), F_MD_want_0 (rt R k s e) 7 _ (Zl_5 h4) (by decide), Option.bind_some]
        simp only [if_true]
        exact ⟨_, _, rfl, rfl, Flt_cr _ _ _ _ (by decide), upq (fr_trans (fr_ct _ _ _ _) (fr_cf _ _ _)), upqr (fr_trans (fr_rt _ _ _ _) (fr_rf _ _ _))⟩
      · rw [decide_eq_false z24, if_pos rfl, if_neg (by show ¬ (xI 24 ≤ _); rw [xI_le (by omega) (by omega)]; omega), F_MD_want_1 (rt R k s e) 7 _ (Zl_5 h4), Option.bind_some]
        simp only [show ((1 : Int32) = 0) = False from by decide, if_false, show (xI (ity k) = 0) = (ity k = 0) from xI_eq (b := 0) (by omega) (by omega)]
        rw [if_neg t0]
        have hTR : ((F_MD_needSign 40 (rt R k s e)).bind fun r133 => ((F_MD_read r133.2).bind fun r139 => (if 4 ≤ xI (ity k) then (if xI (ity k) = 4 then ((F_MD_isSign 42 r139).bind fun r203 => ((F_MD_must r203.1 r203.2).bind fun r206 => B_MD_item0_226 (xI s) (xI (ity k)) 0 r206.2)) else ((F_MD_columnsDimension r139).bind fun r215 => ((F_MD_columnsLevel r215.1 r215.2).bind fun r221 => B_MD_item0_226 (xI s) (xI (ity k)) r221.1 r221.2))) else ((F_MD_name r139).bind fun r148 => (if r148.1 = 0 then B_MD_item0_168 (xI s) (xI (ity k)) 0 r148.2 else ((F_MD_among 40 (r148.2.1 387 18) r148.2).bind fun r161 => B_MD_item0_168 (xI s) (xI (ity k)) r161.1 r161.2)))))) = ((F_MD_needSign 40 (rt R k s e)).bind fun r133 => ((F_MD_read r133.2).bind fun r139 => tgR (xI s) (xI (ity k)) r139)) := rfl
        rw [hTR]
        rcases ls_next h4 (k := k) (s := s) (e := e) (j := 5) u2 (by omega) (by omega) with ⟨s1, e1, c1, c2, c3, c4, c5, c6⟩ | ⟨mc, mr2, c1, c2, c3, c4, c5⟩
        · rw [c1, Option.bind_some, show F_MD_needSign 40 (rt R k s e) = _ from c2, Option.bind_some]
          simp only [show ((1 : Int32) = 0) = False from by decide, if_false]
          obtain ⟨M3, R3, mr3, k3, s3, e3, v1, v2, v3, v4, v5, v6, v7, v8, v9⟩ := stepQ h' (k := 5) (s := s1) c4
          rw [v1, v2, Option.bind_some, Option.bind_some]
          have hTC : (if xI (ity k) = 5 then ((F_QG_readColumn 0 (ct M3 k3 s3 e3)).bind fun r94 => B_QG_readItem_105 (xI s) (xI (ity k)) r94.1 r94.2) else ((F_QG_readSummed (xI (ity k)) (ct M3 k3 s3 e3)).bind fun r102 => B_QG_readItem_105 (xI s) (xI (ity k)) r102.1 r102.2)) = (tgC (xI (ity k)) (ct M3 k3 s3 e3)).bind fun r94 => B_QG_readItem_105 (xI s) (xI (ity k)) r94.1 r94.2 := by
            unfold tgC
            split <;> rfl
          rw [hTC]
          have iM : M3.1 q 0 = xI ni := (v5.1 _ _ (by unfold pC; omega)).trans i2
          have iR : R3.1 r 0 = xI ni := (v6.1 _ _ (by unfold pR; omega)).trans i3
          rcases ls_target (xI s) v4 v3 v7 (t := ity k) (by omega) it5 with ⟨v, k5, s5, e5, w0, w1, w2, w3, w4⟩ | ⟨mc, mr', a, w1, w2, w3, w4, w5⟩
          · rw [w1, w2, Option.bind_some]
            unfold B_QG_readItem_105 B_MD_item0_226
            simp only []
            rw [if_neg (xI_neg1 (by omega))]
            have e15 : e1 ≤ e3 := by have := v7.1; have := v7.2.2.1; omega
            rcases ls_next v4.1 (k := k5) (s := s5) (e := e5) (j := 6) w3 (by omega) (by omega) with ⟨s6, e6, y1, y2, y3, y4, y5, y6⟩ | ⟨mc, mr2, y1, y2, y3, y4, y5⟩
            · left
              rw [y1, Option.bind_some, show F_MD_needSign 41 (rt R3 k5 s5 e5) = _ from y2, Option.bind_some]
              simp only [show ((1 : Int32) = 0) = False from by decide, if_false]
              rw [item234_eq (m := rt R3 6 s6 e6) _ _ _ v4.2.2.2.2.1 hr (show (if r = 387 then _ else R3.1 r 0) = xI ni by rw [if_neg (by omega)]; exact iR) (by omega), addI_rt _ _ _ _ hr]
              unfold B_QG_readItem_128 B_QG_readItem_150
              rw [show (ct M3 6 s6 e6).2.2.1 114 4 = q from v4.2.2.2.1, if_pos (y_qb hq), F_QU_addItem_eq (m := ct M3 6 s6 e6) _ _ _ (show (if q = 3 then _ else M3.1 q 0) = xI ni by rw [if_neg (by omega)]; exact iM) (by omega), addI_ct _ _ _ _ hq, Option.bind_some, if_neg (xI_neg1 (by omega))]
              refine ⟨addI M3 q ni (xI (ity k)) (xI v) (xI s), addI R3 r ni (xI (ity k)) (xI v) (xI s), 6, s6, e6, by omega, rfl, rfl, ZQ_fr v4 (fr_addI _ _ _ _ _ _) (fr_addIr _ _ _ _ _ _) ?_, QI_add (QI_fr hi' v5 v6 hq hr) (by omega) it5 (by omega) _, fr_trans (upCI v5) (fr_addI' _ _ _ _ _ _), fr_trans (upRI v6) (fr_addIr' _ _ _ _ _ _), y4, by omega⟩
              · exact Fz_addI (Zl_f v4.1) hq hr _ _ _ _ _ _ _ _
            · right
              rw [y1, Option.bind_some, show F_MD_needSign 41 (rt R3 k5 s5 e5) = _ from y2, Option.bind_some]
              simp only [if_true]
              rw [item234_eq _ _ _ ((y5.2.2.1 _ _ (by omega)).trans v4.2.2.2.2.1) hr ((y5.1 _ _ (by unfold pR; omega)).trans iR) (by omega)]
              exact ⟨mc, _, rfl, rfl, Flt_addIr y3 hr _ _ _ _, upq (fr_trans v5 y4), fr_trans (upqr (fr_trans v6 y5)) (fr_addIr _ _ _ _ _ _)⟩
          · right
            rw [w1, w2, Option.bind_some, item234_eq _ _ _ ((w5.2.2.1 _ _ (by omega)).trans v4.2.2.2.2.1) hr ((w5.1 _ _ (by unfold pR; omega)).trans iR) (by omega)]
            unfold B_QG_readItem_105
            exact ⟨mc, _, rfl, rfl, Flt_addIr w3 hr _ _ _ _, upq (fr_trans v5 w4), fr_trans (upqr (fr_trans v6 w5)) (fr_addIr _ _ _ _ _ _)⟩
        · right
          rw [c1, Option.bind_some, show F_MD_needSign 40 (rt R k s e) = _ from c2, Option.bind_some]
          simp only [if_true]
          rw [F_MD_read_f _ c3.2.2, Option.bind_some, tgR_f _ _ _ c3.2.2, item234_eq _ _ _ (mq mr2 c5) hr (m0 mr2 c5) (by omega)]
          exact ⟨mc, _, rfl, rfl, Flt_addIr c3 hr _ _ _ _, upq c4, fr_trans (upqr c5) (fr_addIr _ _ _ _ _ _)⟩

/-- the reference's end, when a fault is told -/
theorem q130_f (m : x_m) (h : 0 < m.1 387 5) (hq : x_mq (m.2.2.1 387 22) = true) : B_MD_question_130 m = some m := by
  obtain ⟨b, hb⟩ := F_MD_isSign_any 59 m
  have e272 : B_MD_question_272 m = some m := by
    unfold B_MD_question_272 B_MD_question_310
    rw [if_neg (ne_pos h)]
  unfold B_MD_question_130
  rw [hb, Option.bind_some]
  simp only [F_MD_must_f m _ (ne_pos h), Option.bind_some]
  rw [show x_fu = 199999 + 1 from rfl, B_MD_question_143, if_pos hq, e272, if_neg (ne_pos h)]
  split <;> rfl
theorem q111_f (m : x_m) (h : 0 < m.1 387 5) (hq : x_mq (m.2.2.1 387 22) = true) : B_MD_question_111 m = some m := by
  unfold B_MD_question_111
  rw [if_neg (ne_pos h)]
  exact q130_f m h hq
theorem q47_f (f : Nat) (m : x_m) (h : 0 < m.1 387 5) (hq : x_mq (m.2.2.1 387 22) = true) : B_MD_question_47 (f + 1) 0 m = some m := by
  rw [B_MD_question_47, if_pos rfl, if_neg (ne_pos h)]
  exact q111_f m h hq
/-- the items: up to the token behind them -/
theorem ls_items {n D Ms q r : Nat} : ∀ (w : Nat) (M R : x_m) (k s e ni f g : Nat), n - e < w → ZQ M R n D Ms q r → QI M R q r ni → e ≤ n → w ≤ f → w < g →
    (∃ M' R' mr k' s' e' e0 ni' g', 1 ≤ ni' ∧ B_QG_readItems_2 f (xI ni) (ct M k s e) = some (1, ct M' k' s' e') ∧ B_MD_question_47 g 1 (rt R k s e) = B_MD_question_47 (g' + 1) 0 mr ∧ RS R' mr k' s' e' ∧ TF n e0 k' s' e' ∧ ZQ M' R' n D Ms q r ∧ QI M' R' q r ni' ∧ fr (pI q) (qI q) M M' ∧ fr (pIr r) (qIr r) R R' ∧ e < e' ∧ e' ≤ n ∧ k' ≠ 7) ∨
    (∃ mc mr, B_QG_readItems_2 f (xI ni) (ct M k s e) = some (0, mc) ∧ B_MD_question_47 g 1 (rt R k s e) = some mr ∧ Flt mc mr ∧ fr (pQ q) (qQ q) M mc ∧ fr (pQr r) (qQr r) R mr) := by
  intro w
  induction w with
  | zero => intro M R k s e ni f g hw; exact absurd hw (Nat.not_lt_zero _)
  | succ w ih =>
    intro M R k s e ni f g hw hz hi he hf hg
    cases f with
    | zero => omega
    | succ f =>
    cases g with
    | zero => omega
    | succ g =>
    cases g with
    | zero => omega
    | succ g =>
    have hn := hz.1.1
    have hni := hi.1
    have hq := hz.2.2.2.2.2.1
    have hr := hz.2.2.2.2.2.2
    rw [B_QG_readItems_2, if_neg (by show ¬ (xI 24 < _); rw [xI_lt (by omega) (by omega)]; omega)]
    rw [B_MD_question_47, if_neg (show ¬ (1 : Int32) = 0 by decide)]
    obtain ⟨M1, R1, mr1, k1, s1, e1, h1, h2, h3, h4, h5, h6, h7, h8, h9⟩ := stepQ hz (k := k) (s := s) he
    rw [h1, h2, Option.bind_some, Option.bind_some]
    rcases ls_item h4 (QI_fr hi h5 h6 hq hr) h3 h7 with ⟨M2, R2, k2, s2, e2, c0, c1, c2, c3, c4, c5, c6, c7, c8⟩ | ⟨mc, mr', c1, c2, c3, c4, c5⟩
    · rw [c1, c2, Option.bind_some, Option.bind_some]
      simp only [show ((1 : Int32) = 0) = False from by decide, if_false]
      obtain ⟨M3, R3, mr3, k3, s3, e3, i1, i2, i3, i4, i5, i6, i7, i8, i9⟩ := stepQ c3 (k := k2) (s := s2) c7
      have i7' := i7
      obtain ⟨u1, u2, u3, u4, u5, u6, u7⟩ := i7
      rw [i1, i2, Option.bind_some, Option.bind_some, show (ct M3 k3 s3 e3).2.2.1 3 1 = kRf k3 from rfl, if_pos (kRf_kv u4)]
      simp only [kRf_is (j := 7) u4 (by omega) (by omega)]
      unfold B_MD_question_83 B_MD_question_84
      have fM : fr (pI q) (qI q) M M3 := fr_trans (upCI h5) (fr_trans c5 (upCI i5))
      have fR : fr (pIr r) (qIr r) R R3 := fr_trans (upRI h6) (fr_trans c6 (upRI i6))
      have hi3 := QI_fr c4 i5 i6 hq hr
      by_cases hb : k3 = 1 ∨ k3 = 36
      · left
        obtain ⟨b1, b2, b3⟩ := RS_bad i3 hb
        have hp : 0 < mr3.1 387 5 := by rw [b1]; exact kUn_pos k3
        rw [if_neg (show ¬ k3 = 7 by omega), if_neg (ne_pos hp)]
        have := u5 (by omega)
        have := h7.1; have := h7.2.2.1
        exact ⟨M3, R3, mr3, k3, s3, e3, e2, ni + 1, g, by omega, rfl, rfl, i3, i7', i4, hi3, fM, fR, by omega, u2, by omega⟩
      · have g1 : k3 ≠ 1 := fun z => hb (Or.inl z)
        have g2 : k3 ≠ 36 := fun z => hb (Or.inr z)
        have eq := RS_good i3 g1 g2
        subst eq
        have is : F_MD_isSign 44 (rt R3 k3 s3 e3) = _ := F_MD_isSign_eq R3 (s := s3) (e := e3) u4 g1 g2 (j := 7) (by omega) (by omega)
        rw [if_pos (show (rt R3 k3 s3 e3).1 387 5 = 0 from Zl_5 i4.1), is, Option.bind_some]
        simp only [bI_0]
        have := h7.1; have := h7.2.2.1
        by_cases k7 : k3 = 7
        · rw [if_pos k7, decide_eq_true k7, if_neg (by decide), xI_add1]
          obtain ⟨eM, eR⟩ := i9 (by omega) (by omega)
          subst eM; subst eR; subst k7
          have := u5 (by omega)
          rcases ih M3 R3 7 s3 e3 (ni + 1) f (g + 1) (by omega) i4 hi3 u2 (by omega) (by omega) with ⟨M', R', mr, k', s', e', e0, ni', g', v1, v2, v3, v4, v5, v6, v7, v8, v9, v10, v11, v12⟩ | ⟨mc, mr, v1, v2, v3, v4, v5⟩
          · left
            exact ⟨M', R', mr, k', s', e', e0, ni', g', v1, v2, v3, v4, v5, v6, v7, fr_trans fM v8, fr_trans fR v9, by omega, v11, v12⟩
          · right
            exact ⟨mc, mr, v1, v2, v3, fr_trans (upI fM) v4, fr_trans (upIr fR) v5⟩
        · left
          rw [if_neg k7, decide_eq_false k7, if_pos rfl]
          by_cases k0 : k3 = 0
          · have e13 : e < e3 := by
              by_cases z : k1 = 0
              · subst z
                exfalso
                -- at the end there is no item
                have eq1 := RS_good h3 (by omega) (by omega)
                subst eq1
                rw [F_MD_item0_eq R1 (by omega) (by omega) (by omega)] at c2
                unfold B_MD_item0_71 at c2
                rw [if_pos (show xI (ity 0) = 0 from rfl)] at c2
                rcases ls_col1 h4 (Or.inl ⟨by omega, by omega, rfl⟩ : RS R1 (rt R1 0 s1 e1) 0 s1 e1) h7 with ⟨j, _, z, _⟩ | ⟨mc, mr', _, y2, y3, _, y5⟩
                · omega
                · rw [y2, Option.bind_some] at c2
                  simp only [] at c2
                  rw [item84_f _ _ _ mr' (ne_pos y3.2.2) (by rw [(y5.2.2.1 _ _ (by omega)).trans h4.2.2.2.2.1]; exact y_mq hr)] at c2
                  injection c2 with c2
                  have := y3.2.2
                  rw [c2] at this
                  rw [show (rt R2 k2 s2 e2).1 387 5 = 0 from Zl_5 c3.1] at this
                  exact absurd this (by decide)
              · have := h7.2.2.2.2.1 z; omega
            exact ⟨M3, R3, _, k3, s3, e3, e2, ni + 1, g, by omega, rfl, rfl, i3, i7', i4, hi3, fM, fR, e13, u2, k7⟩
          · have := u5 k0
            exact ⟨M3, R3, _, k3, s3, e3, e2, ni + 1, g, by omega, rfl, rfl, i3, i7', i4, hi3, fM, fR, by omega, u2, k7⟩
    · right
      rw [c1, c2, Option.bind_some, Option.bind_some]
      simp only [if_true]
      rw [F_MD_read_f _ c3.2.2, Option.bind_some, if_neg (ne_pos c3.2.2)]
      unfold B_MD_question_83 B_MD_question_84
      exact ⟨mc, mr', rfl, q47_f g mr' c3.2.2 (by rw [(c5.2.2.1 _ _ (by omega)).trans h4.2.2.2.2.1]; exact y_mq hr), c3, fr_trans (upq h5) c4, fr_trans (upqr h6) c5⟩
