/-! comparisons in step -/
theorem F_MD_needNumber_f (m : x_m) (h : 0 < m.1 387 5) : F_MD_needNumber m = some (0, m) := by
  unfold F_MD_needNumber B_MD_needNumber_18 B_MD_needNumber_32
  rw [F_MD_read_f m h, Option.bind_some, F_MD_must_f m _ (ne_pos h), F_MD_must_f m _ (ne_pos h)]
  split <;> rfl
theorem needNumber_eq (m : x_m) : F_MD_needNumber m = (F_MD_read m).bind fun r1 => (nmust r1).bind fun r18 => (if r18.1 = 0 then some (0, r18.2) else some (r18.2.1 387 11, r18.2)) := by
  unfold F_MD_needNumber B_MD_needNumber_18 B_MD_needNumber_32
  congr 1
  funext x
  unfold nmust
  split <;> rfl
/-- a number, for a comparison -/
theorem ls_numQ {M R : x_m} {n D Ms q r : Nat} (h : ZQ M R n D Ms q r) {k s e : Nat} (he : e ≤ n) :
    (∃ M' R' s' e', F_LX_next (x_N + 2) (ct M k s e) = some (1, ct M' 2 s' e') ∧ F_MD_needNumber (rt R k s e) = some (M'.1 3 4, rt R' 2 s' e') ∧ ZQ M' R' n D Ms q r ∧ fr pC q0 M M' ∧ fr pR q0 R R' ∧ e' ≤ n ∧ e < e' ∧ s' ≤ e') ∨
    (∃ mc mr', F_LX_next (x_N + 2) (ct M k s e) = some (0, mc) ∧ F_MD_needNumber (rt R k s e) = some (0, mr') ∧ Flt mc mr' ∧ fr pC q0 M mc ∧ fr pR q0 R mr') := by
  rw [needNumber_eq]
  rcases ls_num h.1 (k := k) (s := s) he with ⟨M1, R1, s1, e1, h1, h2, h3, h4, h5, h6, h7, h8, h9, h10⟩ | ⟨mc, mr, mr', h1, h2, h3, h4, h5, h6⟩
  · left
    refine ⟨M1, R1, s1, e1, h1, ?_, ZW_fr h (upw h6) (upwr h7) (Zl_f h5), h6, h7, h8, h9, h10⟩
    rw [h2, Option.bind_some, h3, Option.bind_some, h4]
    rfl
  · right
    refine ⟨mc, mr', h1, ?_, h4, h5, h6⟩
    rw [h2, Option.bind_some, h3, Option.bind_some]
    rfl
def pL (cp a b : Nat) : Prop := a = 3 ∨ (a = cp ∧ b = 4)
def qL (r a : Nat) : Prop := a = r + 13
theorem upCL {cp : Nat} {m m' : x_m} (h : fr pC q0 m m') : fr (pL cp) (qP cp) m m' := fr_mono h (fun _ _ z => Or.inl z) (fun _ z => z.elim)
theorem upRL {r : Nat} {m m' : x_m} (h : fr pR q0 m m') : fr pR (qL r) m m' := fr_mono h (fun _ _ z => z) (fun _ z => z.elim)
theorem upLP {cp : Nat} {m m' : x_m} (h : fr (pL cp) (qP cp) m m') : fr (pP cp) (qP cp) m m' := fr_mono h (fun a b z => by unfold pL at z; unfold pP; omega) (fun _ z => z)
theorem upLPr {r : Nat} {m m' : x_m} (h : fr pR (qL r) m m') : fr pR (qPr r) m m' := fr_mono h (fun _ _ z => z) (fun a z => by unfold qL at z; unfold qPr; omega)
theorem ZQ_P {M R M' R' : x_m} {n D Ms q r i : Nat} (hi : i < 60) (h : ZQ M R n D Ms q r) (f : fr (pP (q + 16 + 2 * i)) (qP (q + 16 + 2 * i)) M M') (g : fr pR (qPr r) R R') (h5 : Fz M' R') : ZQ M' R' n D Ms q r := ZW_fr h (upPQ hi f) (upPQr g) h5
theorem list59 (K9 : Int32 → Int32 → Int32 → x_m → Option x_m) (l1 l2 : Int32) (m : x_m) : B_MD_list_59 K9 l1 l2 m = (F_MD_read m).bind (fun r => sep2 (rSg 6) (fun fl m => K9 l1 (l2 + 1) fl m) r) := rfl
theorem list_end {m : x_m} {r i : Nat} (g : Nat) (l2 : Int32) (hr1 : m.2.2.1 387 22 = r) (hr : r = 395 ∨ r = 409) (hi : i < 60) : B_MD_list_9 (g + 1) (xI i) l2 0 m = some (x_wA m (r + 11) i l2) := by
  rw [B_MD_list_9, if_pos rfl, hr1, if_pos (y_mq hr), xI_ix (by omega), if_pos (show decide (i < 60) = true by simp; omega), xI_cl (by omega)]
theorem Flt_wA {mc mr : x_m} (h : Flt mc mr) (a j : Nat) (v : Int32) : Flt mc (x_wA mr a j v) := h
theorem ls_list {n D Ms q r i : Nat} (hi : i < 60) : ∀ (w : Nat) (M R : x_m) (k s e c f g : Nat), n - e < w → ZQ M R n D Ms q r → M.1 (q + 16 + 2 * i) 4 = xI c → c ≤ 40 → (∀ j, j < c → M.2.1 (q + 16 + 2 * i + 1) j = R.2.1 (r + 13) (40 * i + j)) → e ≤ n → w ≤ f → w < g →
    (∃ M' R' s' e' c' g', 1 ≤ c' ∧ c' ≤ 40 ∧ B_QG_readList_17 (q + 16 + 2 * i) f (xI c) (ct M k s e) = some (1, ct M' 6 s' e') ∧ B_MD_list_9 g (xI i) (xI c) 1 (rt R k s e) = B_MD_list_9 (g' + 1) (xI i) (xI c') 0 (rt R' 6 s' e') ∧ ZQ M' R' n D Ms q r ∧ M'.1 (q + 16 + 2 * i) 4 = xI c' ∧ (∀ j, j < c' → M'.2.1 (q + 16 + 2 * i + 1) j = R'.2.1 (r + 13) (40 * i + j)) ∧ fr (pL (q + 16 + 2 * i)) (qP (q + 16 + 2 * i)) M M' ∧ fr pR (qL r) R R' ∧ kpN R R' r i ∧ e' ≤ n ∧ e < e') ∨
    (∃ mc mr, B_QG_readList_17 (q + 16 + 2 * i) f (xI c) (ct M k s e) = some (0, mc) ∧ B_MD_list_9 g (xI i) (xI c) 1 (rt R k s e) = some mr ∧ Flt mc mr ∧ fr (pP (q + 16 + 2 * i)) (qP (q + 16 + 2 * i)) M mc ∧ fr pR (qPr r) R mr ∧ kpN R mr r i) := by
  intro w
  induction w with
  | zero => intro M R k s e c f g hw; exact absurd hw (Nat.not_lt_zero _)
  | succ w ih =>
    intro M R k s e c f g hw hz hc hc40 hl he hf hg
    cases f with
    | zero => omega
    | succ f =>
    cases g with
    | zero => omega
    | succ g =>
    cases g with
    | zero => omega
    | succ g =>
    have hq := hz.2.2.2.2.2.1
    have hr := hz.2.2.2.2.2.2
    have hr1 := hz.2.2.2.2.1
    rw [B_QG_readList_17, if_neg (by show ¬ (xI 40 < _); rw [xI_lt (by omega) (by omega)]; omega)]
    rw [B_MD_list_9, if_neg (show ¬ (1 : Int32) = 0 by decide)]
    rcases ls_numQ hz (k := k) (s := s) he with ⟨M1, R1, s1, e1, h1, h2, h3, h4, h5, h6, h7, h8⟩ | ⟨mc, mr', h1, h2, h3, h4, h5⟩
    · rw [h1, h2, Option.bind_some, Option.bind_some]
      simp only [show ((1 : Int32) = 0) = False from by decide, if_false, show (40 ≤ xI c) = (40 ≤ c) from xI_le (a := 40) (by omega) (by omega)]
      have hc1 : M1.1 (q + 16 + 2 * i) 4 = xI c := (h4.1 _ _ (by unfold pC; omega)).trans hc
      have hl1 : ∀ j, j < c → M1.2.1 (q + 16 + 2 * i + 1) j = R1.2.1 (r + 13) (40 * i + j) := by
        intro j hj
        rw [congrFun (h4.2.1 _ id) j, congrFun (h5.2.1 _ id) _]; exact hl j hj
      have c4 : (ct M1 2 s1 e1).1 (q + 16 + 2 * i) 4 = xI c := by
        show (if q + 16 + 2 * i = 3 then _ else M1.1 (q + 16 + 2 * i) 4) = _
        rw [if_neg (by omega)]; exact hc1
      unfold F_CP_addToList
      simp only [xw_A1, c4, show (xI c < 40) = (c < 40) from xI_lt (b := 40) (by omega) (by omega)]
      unfold B_MD_list_31
      by_cases hcl : c < 40
      · rw [if_pos hcl, xI_ix (by omega), if_pos (show decide (c < 40) = true by simp; omega), xI_cl (by omega), if_neg (show ¬ 40 ≤ c by omega), F_MD_want_1 (rt R1 2 s1 e1) _ _ (Zl_5 h3.1), Option.bind_some, Option.bind_some]
        simp only [show ((1 : Int32) = 0) = False from by decide, if_false]
        rw [show (rt R1 2 s1 e1).2.2.1 387 22 = r from h3.2.2.2.2.1, if_pos (y_mq hr), show (40 : Int32) * xI i = xI (40 * i) from xI_mul 40 i, xI_add, xI_ix (by omega), if_pos (show decide (40 * i + c < 2400) = true by simp; omega), xI_cl (by omega)]
        rw [ct_wA, ct_wS _ _ _ _ _ (by omega), rt_wA, xI_add1]
        rw [show (ct M1 2 s1 e1).1 3 4 = M1.1 3 4 from rfl]
        have fM : fr (pL (q + 16 + 2 * i)) (qP (q + 16 + 2 * i)) M1 (x_wS (x_wA M1 (q + 16 + 2 * i + 1) c (M1.1 3 4)) (q + 16 + 2 * i) 4 (xI (c + 1))) := fr_trans (fr_wA _ _ _ _ rfl) (fr_wS _ _ _ _ (Or.inr ⟨rfl, rfl⟩))
        have fR : fr pR (qL r) R1 (x_wA R1 (r + 13) (40 * i + c) (M1.1 3 4)) := fr_wA _ _ _ _ rfl
        have kR : kpN R1 (x_wA R1 (r + 13) (40 * i + c) (M1.1 3 4)) r i := kpN_wA _ _ (by omega)
        have z2 : ZQ (x_wS (x_wA M1 (q + 16 + 2 * i + 1) c (M1.1 3 4)) (q + 16 + 2 * i) 4 (xI (c + 1))) (x_wA R1 (r + 13) (40 * i + c) (M1.1 3 4)) n D Ms q r := ZQ_P hi h3 (upLP fM) (upLPr fR) (Fz_S (Fz_A (Fz_Ar (Zl_f h3.1))) (by have := h3.2.2.2.2.2.1; omega))
        have hc2 : (x_wS (x_wA M1 (q + 16 + 2 * i + 1) c (M1.1 3 4)) (q + 16 + 2 * i) 4 (xI (c + 1))).1 (q + 16 + 2 * i) 4 = xI (c + 1) := by
          show (if q + 16 + 2 * i = q + 16 + 2 * i ∧ 4 = 4 then _ else _) = _
          rw [if_pos ⟨rfl, rfl⟩]
        have hl2 : ∀ j, j < c + 1 → (x_wS (x_wA M1 (q + 16 + 2 * i + 1) c (M1.1 3 4)) (q + 16 + 2 * i) 4 (xI (c + 1))).2.1 (q + 16 + 2 * i + 1) j = (x_wA R1 (r + 13) (40 * i + c) (M1.1 3 4)).2.1 (r + 13) (40 * i + j) := by
          intro j hj
          show (if q + 16 + 2 * i + 1 = q + 16 + 2 * i + 1 ∧ j = c then _ else _) = if r + 13 = r + 13 ∧ 40 * i + j = 40 * i + c then _ else _
          by_cases ej : j = c
          · rw [if_pos ⟨rfl, ej⟩, if_pos ⟨rfl, by omega⟩]
          · rw [if_neg (fun z => ej z.2), if_neg (by omega)]; exact hl1 j (by omega)
        generalize x_wS (x_wA M1 (q + 16 + 2 * i + 1) c (M1.1 3 4)) (q + 16 + 2 * i) 4 (xI (c + 1)) = M2 at *
        generalize x_wA R1 (r + 13) (40 * i + c) (M1.1 3 4) = R2 at *
        obtain ⟨M3, R3, mr3, k3, s3, e3, i1, i2, i3, i4, i5, i6, i7, i8, i9⟩ := stepQ z2 (k := 2) (s := s1) h6
        obtain ⟨u1, u2, u3, u4, u5, u6, u7⟩ := i7
        rw [i1, Option.bind_some, list59, i2, Option.bind_some]
        obtain ⟨x7, x6, xo⟩ := sep2_eq (fun fl m => B_MD_list_9 (g + 1) (xI i) (xI c + 1) fl m) i3 (Zl_5 i4.1) u4 (Or.inl rfl : (6 = 6 ∨ 6 = 8))
        rw [show (ct M3 k3 s3 e3).2.2.1 3 1 = kRf k3 from rfl, if_pos (kRf_kv u4)]
        simp only [kRf_is (j := 6) u4 (by omega) (by omega)]
        rw [F_LX_at_eq M3 u4 (by omega) (by omega)]
        have FM := fr_trans (upCL h4) fM
        have FR := fr_trans (upRL h5) fR
        have KR := kpN_trans (kpN_fr h5) kR
        by_cases k6 : k3 = 6
        · left
          rw [if_pos k6, x6 k6]
          obtain ⟨eM, eR⟩ := i9 (by omega) (by omega)
          subst eM; subst eR; subst k6
          have := u5 (by omega)
          exact ⟨M3, R3, s3, e3, c + 1, g, by omega, by omega, rfl, by rw [xI_add1], z2, hc2, hl2, FM, FR, KR, u2, by omega⟩
        · rw [if_neg k6]
          by_cases k7 : k3 = 7
          · rw [if_pos k7, x7 k7, Option.bind_some]
            simp only [show ((1 : Int32) = 0) = False from by decide, if_false]
            obtain ⟨eM, eR⟩ := i9 (by omega) (by omega)
            subst eM; subst eR; subst k7
            have := u5 (by omega)
            rw [xI_add1]
            rcases ih M3 R3 7 s3 e3 (c + 1) f (g + 1) (by omega) z2 hc2 (by omega) hl2 u2 (by omega) (by omega) with ⟨M', R', s', e', c', g', j1, j2, j3, j4, j5, j6, j7, j8, j9, j10, j11, j12⟩ | ⟨mc, mr, j1, j2, j3, j4, j5, j6⟩
            · left
              exact ⟨M', R', s', e', c', g', j1, j2, j3, j4, j5, j6, j7, fr_trans FM j8, fr_trans FR j9, kpN_trans KR j10, j11, by omega⟩
            · right
              exact ⟨mc, mr, j1, j2, j3, fr_trans (upLP FM) j4, fr_trans (upLPr FR) j5, kpN_trans KR j6⟩
          · right
            obtain ⟨mr', y1, y2, y3, y4⟩ := xo k7 k6
            rw [if_neg k7, Option.bind_some]
            simp only [if_true]
            have hp : 0 < mr'.1 387 5 := by rw [y2]; exact kUn_pos k3
            have fc := fr_trans i5 (fr_trans (fr_ct M3 k3 s3 e3) (fr_cf _ (kUn k3) (xI s3)))
            have rq : mr'.2.2.1 387 22 = r := ((fr_trans i6 y4).2.2.1 _ _ (by omega)).trans z2.2.2.2.2.1
            rw [y1, list_end g _ rq hr hi]
            refine ⟨cf (ct M3 k3 s3 e3) (kUn k3) (xI s3), _, rfl, rfl, Flt_wA ⟨by rw [y2]; rfl, by rw [y3]; rfl, hp⟩ _ _ _, fr_trans (upLP FM) (upCP fc), fr_trans (upLPr FR) (fr_trans (upRP (fr_trans i6 y4)) (fr_wA _ _ _ _ (by unfold qPr; omega))), kpN_trans KR (kpN_trans (kpN_fr (fr_trans i6 y4)) (kpN_wA _ _ (by omega)))⟩
      · right
        rw [if_neg hcl, if_pos (show 40 ≤ c by omega), F_MD_want_0 (rt R1 2 s1 e1) 7 _ (Zl_5 h3.1) (by decide), Option.bind_some, Option.bind_some]
        simp only [if_true]
        have f1 := fr_trans h4 (fr_trans (fr_ct M1 2 s1 e1) (fr_cf _ 7 (xI s1)))
        have f2 := fr_trans h5 (fr_trans (fr_rt R1 2 s1 e1) (fr_rf _ 7 (xI s1)))
        rw [list59, F_MD_read_f _ (show (0 : Int32) < 7 by decide), Option.bind_some, sep2_f _ _ _ (show (7 : Int32) ≠ 0 by decide), list_end (m := rf (rt R1 2 s1 e1) 7 ((rt R1 2 s1 e1).1 387 8)) g _ h3.2.2.2.2.1 hr hi]
        exact ⟨_, _, rfl, rfl, Flt_wA (Flt_cr _ _ _ _ (by decide)) _ _ _, upCP f1, fr_trans (upRP f2) (fr_wA _ _ _ _ (by unfold qPr; omega)), kpN_trans (kpN_fr f2) (kpN_wA _ _ (by omega))⟩
    · right
      rw [h1, h2, Option.bind_some, Option.bind_some]
      simp only [if_true]
      have rq : mr'.2.2.1 387 22 = r := (h5.2.2.1 _ _ (by omega)).trans hr1
      have cont : ∀ s0, B_MD_list_31 (B_MD_list_9 (g + 1)) (xI i) (xI c) 0 s0 mr' = some (x_wA mr' (r + 11) i (xI c + 1)) := by
        intro s0
        unfold B_MD_list_31
        rw [F_MD_want_f mr' _ _ _ (ne_pos h3.2.2), Option.bind_some]
        simp only [if_true]
        rw [list59, F_MD_read_f _ h3.2.2, Option.bind_some, sep2_f _ _ _ (ne_pos h3.2.2), list_end g _ rq hr hi]
      rw [cont, cont]
      refine ⟨mc, x_wA mr' (r + 11) i (xI c + 1), rfl, by split <;> rfl, Flt_wA h3 _ _ _, upCP h4, fr_trans (upRP h5) (fr_wA _ _ _ _ (by unfold qPr; omega)), kpN_trans (kpN_fr h5) (kpN_wA _ _ (by omega))⟩
