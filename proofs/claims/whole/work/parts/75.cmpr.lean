/-! one comparison in step -/
theorem ls_word {M R : x_m} {n : Nat} (h : Zl M R n) {k s e w : Nat} (he : e ≤ n) (hw : w < 19) :
    (∃ s' e', F_LX_next (x_N + (17 + w)) (ct M k s e) = some (1, ct M (17 + w) s' e') ∧ (F_MD_read (rt R k s e)).bind (fun r => (F_MD_isWord (xI w) r).bind fun r' => F_MD_must r'.1 r'.2) = some (1, rt R (17 + w) s' e') ∧ s' ≤ e' ∧ e' ≤ n ∧ e < e') ∨
    (∃ mc mr, F_LX_next (x_N + (17 + w)) (ct M k s e) = some (0, mc) ∧ (F_MD_read (rt R k s e)).bind (fun r => (F_MD_isWord (xI w) r).bind fun r' => F_MD_must r'.1 r'.2) = some (0, mr) ∧ Flt mc mr ∧ fr pC q0 M mc ∧ fr pR q0 R mr) := by
  obtain ⟨M1, R1, mr, k1, s1, e1, h1, h2, h3, h4, h5, h6, h7, h8, h9⟩ := step2 h (k := k) (s := s) he
  obtain ⟨t1, t2, t3, t4, t5, t6, t7⟩ := h7
  unfold F_LX_next
  rw [h1, h2, Option.bind_some, Option.bind_some, F_LX_at_eq M1 t4 (by omega) (by omega)]
  by_cases hb : k1 = 1 ∨ k1 = 36
  · right
    obtain ⟨b1, b2, b3⟩ := RS_bad h3 hb
    have hp : 0 < mr.1 387 5 := by rw [b1]; exact kUn_pos k1
    obtain ⟨b, hbb⟩ := F_MD_isWord_any (xI w) mr
    rw [if_neg (show ¬ k1 = 17 + w by omega), hbb]
    simp only [Option.bind_some, F_MD_must_f mr _ (ne_pos hp)]
    exact ⟨_, mr, rfl, rfl, ⟨by rw [b1]; rfl, by rw [b2]; rfl, hp⟩, fr_trans h5 (fr_trans (fr_ct _ _ _ _) (fr_cf _ _ _)), fr_trans h6 b3⟩
  · have g1 : k1 ≠ 1 := fun z => hb (Or.inl z)
    have g2 : k1 ≠ 36 := fun z => hb (Or.inr z)
    have eq := RS_good h3 g1 g2
    subst eq
    rw [F_MD_isWord_eq R1 t4 g1 g2 hw, Option.bind_some]
    by_cases kw : k1 = 17 + w
    · left
      obtain ⟨eM, eR⟩ := h9 (by omega) (by omega)
      subst eM; subst eR
      rw [if_pos kw, decide_eq_true kw]
      simp only [show bI true = 1 from rfl, F_MD_must_1 (rt R1 k1 s1 e1) (Zl_5 h4)]
      subst kw
      exact ⟨s1, e1, rfl, rfl, t1, t2, t5 (by omega)⟩
    · right
      rw [if_neg kw, decide_eq_false kw]
      simp only [show bI false = 0 from rfl, F_MD_must_0 R1 (s := s1) (e := e1) t4 g1 g2 (Zl_5 h4)]
      exact ⟨_, _, rfl, rfl, Flt_cr _ _ _ _ (kUn_pos k1), fr_trans h5 (fr_trans (fr_ct _ _ _ _) (fr_cf _ _ _)), fr_trans h6 (fr_trans (fr_rt _ _ _ _) (fr_rf _ _ _))⟩
def hwI (k : Nat) : Int32 := if k = 11 then 0 else if k = 12 then 1 else if k = 13 then 2 else if k = 14 then 3 else if k = 15 then 4 else if k = 16 then 5 else if k = 34 then 6 else if k = 35 then 7 else if k = 33 then 8 else -1
def howC (l3 : Int32) (r61 : x_m) : Option x_m := ((F_MD_isSign 61 r61).bind fun r67 => (if r67.1 = 0 then ((F_MD_isSign 15422 r67.2).bind fun r81 => (if r81.1 = 0 then ((F_MD_isSign 60 r81.2).bind fun r94 => (if r94.1 = 0 then ((F_MD_isSign 15421 r94.2).bind fun r108 => (if r108.1 = 0 then ((F_MD_isSign 62 r108.2).bind fun r121 => (if r121.1 = 0 then ((F_MD_isSign 15933 r121.2).bind fun r135 => (if r135.1 = 0 then ((F_MD_isWord 17 r135.2).bind fun r148 => (if r148.1 = 0 then ((F_MD_isWord 18 r148.2).bind fun r162 => (if r162.1 = 0 then ((F_MD_isWord 16 r162.2).bind fun r176 => (if r176.1 = 0 then B_MD_comparison_188 l3 ((-1)) r176.2 else B_MD_comparison_188 l3 8 r176.2)) else B_MD_comparison_188 l3 7 r162.2)) else B_MD_comparison_188 l3 6 r148.2)) else B_MD_comparison_188 l3 5 r135.2)) else B_MD_comparison_188 l3 4 r121.2)) else B_MD_comparison_188 l3 3 r108.2)) else B_MD_comparison_188 l3 2 r94.2)) else B_MD_comparison_188 l3 1 r81.2)) else B_MD_comparison_188 l3 0 r67.2))
theorem howC_eq (l3 : Int32) (R : x_m) {k s e : Nat} (hk : k ≤ 36) (h1 : k ≠ 1) (h36 : k ≠ 36) : howC l3 (rt R k s e) = B_MD_comparison_188 l3 (hwI k) (rt R k s e) := by
  have a1 : F_MD_isSign 61 (rt R k s e) = _ := F_MD_isSign_eq R (s := s) (e := e) hk h1 h36 (j := 11) (by omega) (by omega)
  have a2 : F_MD_isSign 15422 (rt R k s e) = _ := F_MD_isSign_eq R (s := s) (e := e) hk h1 h36 (j := 12) (by omega) (by omega)
  have a3 : F_MD_isSign 60 (rt R k s e) = _ := F_MD_isSign_eq R (s := s) (e := e) hk h1 h36 (j := 13) (by omega) (by omega)
  have a4 : F_MD_isSign 15421 (rt R k s e) = _ := F_MD_isSign_eq R (s := s) (e := e) hk h1 h36 (j := 14) (by omega) (by omega)
  have a5 : F_MD_isSign 62 (rt R k s e) = _ := F_MD_isSign_eq R (s := s) (e := e) hk h1 h36 (j := 15) (by omega) (by omega)
  have a6 : F_MD_isSign 15933 (rt R k s e) = _ := F_MD_isSign_eq R (s := s) (e := e) hk h1 h36 (j := 16) (by omega) (by omega)
  have b1 : F_MD_isWord 17 (rt R k s e) = _ := F_MD_isWord_eq R (s := s) (e := e) hk h1 h36 (w := 17) (by omega)
  have b2 : F_MD_isWord 18 (rt R k s e) = _ := F_MD_isWord_eq R (s := s) (e := e) hk h1 h36 (w := 18) (by omega)
  have b3 : F_MD_isWord 16 (rt R k s e) = _ := F_MD_isWord_eq R (s := s) (e := e) hk h1 h36 (w := 16) (by omega)
  unfold howC hwI
  simp only [a1, a2, a3, a4, a5, a6, b1, b2, b3, Option.bind_some, bI_0, decide_eq_false_iff_not, Nat.reduceAdd]
  by_cases z1 : k = 11
  · subst z1; rfl
  · by_cases z2 : k = 12
    · subst z2; rfl
    · by_cases z3 : k = 13
      · subst z3; rfl
      · by_cases z4 : k = 14
        · subst z4; rfl
        · by_cases z5 : k = 15
          · subst z5; rfl
          · by_cases z6 : k = 16
            · subst z6; rfl
            · by_cases z7 : k = 34
              · subst z7; rfl
              · by_cases z8 : k = 35
                · subst z8; rfl
                · by_cases z9 : k = 33
                  · subst z9; rfl
                  · simp only [z1, z2, z3, z4, z5, z6, z7, z8, z9, not_true, not_false_iff, if_true, if_false]
theorem cmp188_f (l3 s0 : Int32) (m : x_m) (h : m.1 387 5 ≠ 0) : B_MD_comparison_188 l3 s0 m = some m := by
  unfold B_MD_comparison_188 B_MD_comparison_201
  rw [F_MD_must_f m _ h, F_MD_must_f m _ h]
  split <;> rfl
theorem howC_f (l3 : Int32) (m : x_m) (h : m.1 387 5 ≠ 0) : howC l3 m = some m := by
  obtain ⟨c1, a1⟩ := F_MD_isSign_any 61 m
  obtain ⟨c2, a2⟩ := F_MD_isSign_any 15422 m
  obtain ⟨c3, a3⟩ := F_MD_isSign_any 60 m
  obtain ⟨c4, a4⟩ := F_MD_isSign_any 15421 m
  obtain ⟨c5, a5⟩ := F_MD_isSign_any 62 m
  obtain ⟨c6, a6⟩ := F_MD_isSign_any 15933 m
  obtain ⟨d1, b1⟩ := F_MD_isWord_any 17 m
  obtain ⟨d2, b2⟩ := F_MD_isWord_any 18 m
  obtain ⟨d3, b3⟩ := F_MD_isWord_any 16 m
  unfold howC
  simp only [a1, a2, a3, a4, a5, a6, b1, b2, b3, Option.bind_some, cmp188_f _ _ m h]
  repeat' split
  all_goals rfl
theorem F_MD_say_f (a : Int32) (m : x_m) (h : m.1 387 5 ≠ 0) : F_MD_say a m = some m := by
  unfold F_MD_say B_MD_say_36
  rw [if_neg h]
/-- a sign written -/
def sayS (m : x_m) (r sn : Nat) (a : Int32) : x_m := x_wS (x_wA m (r + 8) sn a) r 11 (xI (sn + 1))
theorem F_MD_say_eq {m : x_m} {r sn : Nat} (a : Int32) (h : m.1 387 5 = 0) (hr1 : m.2.2.1 387 22 = r) (hr : r = 395 ∨ r = 409) (hs : m.1 r 11 = xI sn) (hsn : sn < 2600) : F_MD_say a m = some (sayS m r sn a) := by
  unfold F_MD_say B_MD_say_36 sayS
  simp only [if_pos h, xw_A1, xw_A3, hr1, y_mq hr, if_true, hs]
  rw [xI_ix (by omega), if_pos (show decide (sn < 2600) = true by simp; omega), xI_cl (by omega), xI_add1]
theorem sayS_rt (M : x_m) (k s e : Nat) {r : Nat} (hr : r = 395 ∨ r = 409) (sn : Nat) (a : Int32) : sayS (rt M k s e) r sn a = rt (sayS M r sn a) k s e := by
  unfold sayS
  rw [rt_wA, rt_wS _ _ _ _ _ (by omega)]
theorem fr_say (R : x_m) (r sn : Nat) (a : Int32) : fr (pWr r) (qWr r) R (sayS R r sn a) := fr_trans (fr_wA _ _ _ _ (by unfold qWr; omega)) (fr_wS _ _ _ _ (by unfold pWr; omega))
/-- the reference's comparison when a fault is told -/
def fQ (r : Nat) (m m' : x_m) : Prop := fr (pWr r) (qWr r) m m' ∧ (∀ b, 5 ≤ b → b ≤ 12 → m'.1 387 b = m.1 387 b)
theorem cmp306_f {m : x_m} {r : Nat} (l3 : Int32) (h : 0 < m.1 387 5) (hr1 : m.2.2.1 387 22 = r) (hr : r = 395 ∨ r = 409) : ∃ m', B_MD_comparison_306 l3 m = some m' ∧ fQ r m m' := by
  unfold B_MD_comparison_306
  rw [hr1, if_pos (y_mq hr)]
  have e5 : (x_wS m r 13 (m.1 r 13 + 1)).1 387 5 = m.1 387 5 := by
    show (if 387 = r ∧ 5 = 13 then _ else _) = _
    rw [if_neg (by omega)]
  rw [F_MD_say_f _ _ (by rw [e5]; exact ne_pos h), Option.bind_some, F_MD_read_f _ (by rw [e5]; exact h)]
  refine ⟨_, rfl, fr_wS _ _ _ _ (by unfold pWr; omega), fun b h1 h2 => ?_⟩
  show (if 387 = r ∧ b = 13 then _ else _) = _
  rw [if_neg (by omega)]
theorem fQ_trans {r : Nat} {m m' m'' : x_m} (h : fQ r m m') (h' : fQ r m' m'') : fQ r m m'' := ⟨fr_trans h.1 h'.1, fun b a c => (h'.2 b a c).trans (h.2 b a c)⟩
theorem fQ_wA {r : Nat} (m : x_m) {a j : Nat} (v : Int32) (h : r + 8 ≤ a ∧ a < r + 14) : fQ r m (x_wA m a j v) := ⟨fr_wA _ _ _ _ h, fun _ _ _ => rfl⟩
theorem fQ_5 {r : Nat} {m m' : x_m} (h : fQ r m m') : m'.1 387 5 = m.1 387 5 := h.2 5 (by omega) (by omega)
theorem fQ_r {r : Nat} {m m' : x_m} (h : fQ r m m') : m'.2.2.1 387 22 = m.2.2.1 387 22 := h.1.2.2.1 _ _ (by omega)
theorem Flt_fQ {r : Nat} {mc m m' : x_m} (h : Flt mc m) (f : fQ r m m') : Flt mc m' := ⟨h.1.trans (f.2 5 (by omega) (by omega)).symm, h.2.1.trans (f.2 6 (by omega) (by omega)).symm, by rw [fQ_5 f]; exact h.2.2⟩
theorem cmp270_f {m : x_m} {r i : Nat} (l4 : Int32) (hi : i < 60) (h : 0 < m.1 387 5) (hr1 : m.2.2.1 387 22 = r) (hr : r = 395 ∨ r = 409) : ∃ m', B_MD_comparison_270 (xI i) l4 m = some m' ∧ fQ r m m' := by
  unfold B_MD_comparison_270
  by_cases h6 : l4 = 6
  · rw [if_pos h6]
    obtain ⟨b, hb⟩ := F_MD_isWord_any 14 m
    rw [F_MD_read_f m h, Option.bind_some, hb, Option.bind_some]
    simp only [F_MD_must_f m _ (ne_pos h), Option.bind_some]
    rw [hr1, if_pos (y_mq hr), F_MD_needNumber_f m h, Option.bind_some, xI_ix (by omega), if_pos (show decide (i < 60) = true by simp; omega), xI_cl (by omega)]
    obtain ⟨m', a1, a2⟩ := cmp306_f (m := x_wA m (r + 12) i 0) (xI i) h hr1 hr
    exact ⟨m', a1, fQ_trans (fQ_wA _ _ (by omega)) a2⟩
  · rw [if_neg h6]
    exact cmp306_f _ h hr1 hr
theorem cmp242_f {m : x_m} {r i : Nat} (l4 : Int32) (hi : i < 60) (h : 0 < m.1 387 5) (hr1 : m.2.2.1 387 22 = r) (hr : r = 395 ∨ r = 409) : ∃ m', B_MD_comparison_242 (xI i) l4 m = some m' ∧ fQ r m m' := by
  unfold B_MD_comparison_242
  by_cases h7 : 7 ≤ l4
  · rw [if_pos h7]
    unfold F_MD_list
    rw [F_MD_needSign_f m _ h, Option.bind_some]
    simp only []
    rw [show x_fu = 199999 + 1 from rfl, list_end 199999 _ hr1 hr hi, Option.bind_some]
    obtain ⟨m', a1, a2⟩ := cmp270_f (m := x_wA m (r + 11) i 0) l4 hi h hr1 hr
    exact ⟨m', a1, fQ_trans (fQ_wA _ _ (by omega)) a2⟩
  · rw [if_neg h7, hr1, if_pos (y_mq hr), F_MD_needNumber_f m h, Option.bind_some, xI_ix (by omega), if_pos (show decide (i < 60) = true by simp; omega), xI_cl (by omega)]
    obtain ⟨m', a1, a2⟩ := cmp270_f (m := x_wA m (r + 11) i 0) l4 hi h hr1 hr
    exact ⟨m', a1, fQ_trans (fQ_wA _ _ (by omega)) a2⟩
/-- the reference's memory behind a comparison that is right -/
def sayC (R : x_m) (r c sn : Nat) : x_m := sayS (x_wS R r 13 (xI (c + 1))) r sn (xI c)
theorem cmp306_eq {R : x_m} {r c sn k s e : Nat} (h5 : R.1 387 5 = 0) (hr1 : R.2.2.1 387 22 = r) (hr : r = 395 ∨ r = 409) (hc : R.1 r 13 = xI c) (hs : R.1 r 11 = xI sn) (hsn : sn < 2600) : B_MD_comparison_306 (xI c) (rt R k s e) = F_MD_read (rt (sayC R r c sn) k s e) := by
  unfold B_MD_comparison_306
  have e1 : (rt R k s e).1 r 13 = xI c := by show (if r = 387 then _ else R.1 r 13) = _; rw [if_neg (by omega)]; exact hc
  rw [show (rt R k s e).2.2.1 387 22 = r from hr1, if_pos (y_mq hr), e1, xI_add1, rt_wS _ _ _ _ _ (by omega)]
  have e2 : F_MD_say (xI c) (rt (x_wS R r 13 (xI (c + 1))) k s e) = some (sayS (rt (x_wS R r 13 (xI (c + 1))) k s e) r sn (xI c)) := by
    refine F_MD_say_eq _ ?_ hr1 hr ?_ hsn
    · show (if 387 = r ∧ 5 = 13 then _ else R.1 387 5) = 0
      rw [if_neg (by omega)]; exact h5
    · show (if r = 387 then _ else if r = r ∧ 11 = 13 then _ else R.1 r 11) = _
      rw [if_neg (by omega), if_neg (by omega)]; exact hs
  rw [e2, Option.bind_some, sayS_rt _ _ _ _ hr]
  unfold sayC
  cases F_MD_read (rt (sayS (x_wS R r 13 (xI (c + 1))) r sn (xI c)) k s e) <;> rfl
