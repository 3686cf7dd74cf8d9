/-! the question from its start -/
theorem outQ_pre {n D q r q2 r2 u1 u : Nat} {M R M1 R1 : x_m} {C : Option (Int32 × x_m)} {S : Option x_m} (h : outQ n D q r q2 r2 M1 R1 C S u1) (f : fr (pQ q) (qQ q) M M1) (g : fr (pQr r) (qQr r) R R1) (hu : u1 ≤ u) : outQ n D q r q2 r2 M R C S u := by
  obtain ⟨M', R', s', e', a1, a2, a3, a4, a5, a6, a7, a8, a9, a10, a11, a12, a13, a14⟩ := h
  exact ⟨M', R', s', e', a1, a2, a3, a4, by omega, a6, a7, a8, a9, a10, a11, a12, fx_trans (fx_of f (Or.inl ⟨rfl, rfl⟩)) a13, fx_trans (fx_mono (fx_of (W := wQr) g (Or.inl ⟨rfl, rfl⟩)) (fun _ _ z => Or.inl z) (fun _ z => z) (fun _ _ z => z)) a14⟩
theorem outQF_pre {q r : Nat} {M R M1 R1 : x_m} {C : Option (Int32 × x_m)} {S : Option x_m} (h : outQF q r M1 R1 C S) (f : fr (pQ q) (qQ q) M M1) (g : fr (pQr r) (qQr r) R R1) : outQF q r M R C S := by
  obtain ⟨mc, mr, a1, a2, a3, a4, a5⟩ := h
  exact ⟨mc, mr, a1, a2, a3, fr_trans f a4, fr_trans g a5⟩
theorem ls_grouping {M R : x_m} {n D Ms q r s e ng np fs kd sz} (hz : ZQ M R n D Ms q r) (hg : GS M R q r ng np 1 fs kd sz) (he : e ≤ n) (hsn : s ≤ n) :
    (∃ M' R' mr' k' s' e' e0' ng' np' ns' fs' kd' sz', F_QG_readGroups (ct M 22 s e) = some (1, ct M' k' s' e') ∧ F_MD_grouping (rt R 22 s e) = some mr' ∧ RS R' mr' k' s' e' ∧ TF n e0' k' s' e' ∧ ZQ M' R' n D Ms q r ∧ GS M' R' q r ng' np' ns' fs' kd' sz' ∧ fr (pH q) (qH q) M M' ∧ fr (pHr r) (qHr r) (x_wS R 387 25 (xI s)) R' ∧ mu n k' e' < mu n 22 e) ∨
    outQF q r M R (F_QG_readGroups (ct M 22 s e)) (F_MD_grouping (rt R 22 s e)) := by
  have hq := hz.2.2.2.2.2.1
  have hr := hz.2.2.2.2.2.2
  have hn := hz.1.1
  have fw : fr (pQr r) (qQr r) R (x_wS R 387 25 (xI s)) := fr_wS _ _ _ _ (by unfold pQr; omega)
  have z2 : ZQ M (x_wS R 387 25 (xI s)) n D Ms q r := ZQ_fr hz (fr_refl _ _ _) fw (Fz_Sr (Zl_f hz.1) (by omega))
  have g2 : GS M (x_wS R 387 25 (xI s)) q r ng np 1 fs kd sz := by
    obtain ⟨⟨a1, a1', a1'', a1'''⟩, a2, a3, a4, a5, a6, a7, a8, a9⟩ := hg
    have rw1 : ∀ b, (x_wS R 387 25 (xI s)).1 r b = R.1 r b := by
      intro b
      show (if r = 387 ∧ b = 25 then _ else _) = _
      rw [if_neg (by omega)]
    exact ⟨⟨a1, a1', (rw1 4).trans a1'', a1'''⟩, (rw1 6).trans a2, a3, a4, a5, a6, a7, a8, a9⟩
  have h25 : (x_wS R 387 25 (xI s)).1 387 25 = xI s := rfl
  unfold F_QG_readGroups F_MD_grouping
  rw [show (rt R 22 s e).1 387 8 = xI s from rfl, rt_wS _ _ _ _ _ (by omega), show (ct M 22 s e).1 3 2 = xI s from rfl]
  generalize hR2 : x_wS R 387 25 (xI s) = R2 at *
  have hb : ∀ K : Int32 × x_m → Option x_m, ((F_MD_read (rt R2 22 s e)).bind fun r9 => (F_MD_isWord 6 r9).bind fun r18 => (F_MD_must r18.1 r18.2).bind K) = ((F_MD_read (rt R2 22 s e)).bind (fun r => (F_MD_isWord (xI 6) r).bind fun r' => F_MD_must r'.1 r'.2)).bind K := by
    intro K
    rw [show (xI 6) = 6 from rfl]
    cases F_MD_read (rt R2 22 s e) with
    | none => rfl
    | some x =>
      show (F_MD_isWord 6 x).bind _ = ((F_MD_isWord 6 x).bind _).bind K
      cases F_MD_isWord 6 x <;> rfl
  rw [hb]
  rcases ls_word z2.1 (k := 22) (s := s) he (w := 6) (by omega) with ⟨s', e', h1, h2, h3, h4, h5⟩ | ⟨mc, mr, h1, h2, h3, h4, h5⟩
  · rw [show x_N + 23 = x_N + (17 + 6) from rfl, h1, h2, Option.bind_some, Option.bind_some]
    simp only [show ((1 : Int32) = 0) = False from by decide, if_false]
    have m1 : mu n 23 e' < mu n 22 e := by unfold mu; simp; omega
    have m2 := mu_ge n 23 e'
    rcases ls_groupsL (n := n) (D := D) (Ms := Ms) (q := q) (r := r) (gp := s) (mu n 23 e' + 1) M R2 23 s' e' ng np 1 0 x_fu x_fu fs kd sz (by omega) (by omega) z2 g2 h25 h4 (by omega) (by unfold x_fu; omega) (by unfold x_fu; omega) with ⟨M', R', mr', k', s3, e3, e0', ng', np', ns', fs', kd', sz', v1, v2, v3, v4, v5, v6, v7, v8, v9⟩ | ⟨mc, mr', v1, v2, v3, v4, v5⟩
    · left
      exact ⟨M', R', mr', k', s3, e3, e0', ng', np', ns', fs', kd', sz', v1, v2, v3, v4, v5, v6, v7, v8, by omega⟩
    · right
      exact ⟨mc, mr', v1, v2, v3, v4, fr_trans fw v5⟩
  · right
    rw [show x_N + 23 = x_N + (17 + 6) from rfl, h1, h2, Option.bind_some, Option.bind_some]
    simp only [if_true]
    rw [show x_fu = 199999 + 1 from rfl, B_MD_grouping_25, if_pos rfl]
    exact ⟨_, _, rfl, rfl, h3, upq h4, fr_trans fw (upqr h5)⟩
theorem ls_q58 {M R mr : x_m} {n D Ms q r e0 k s e ni cc jc sn ng np q2 r2 : Nat} {G : (Nat → Bool) → Bool} {fs kd sz : Nat → Nat} (hz : ZQ M R n D Ms q r) (hs : RS R mr k s e) (ht : TF n e0 k s e) (hi : QI M R q r ni) (h1 : 1 ≤ ni) (hc : k ≠ 1 → k ≠ 36 → CndQ M R q r D cc jc sn G) (hg : GS M R q r ng np 1 fs kd sz) (hq2 : M.2.2.1 114 3 = q2) (hr2 : R.2.2.1 387 21 = r2) (hq2' : q2 = 115 ∨ q2 = 251) (hr2' : r2 = 395 ∨ r2 = 409) :
    outQ n D q r q2 r2 M R (B_QG_readQuestion_58 (ct M k s e)) (B_MD_question_111 mr) (mu n k e) ∨ outQF q r M R (B_QG_readQuestion_58 (ct M k s e)) (B_MD_question_111 mr) := by
  have hq := hz.2.2.2.2.2.1
  have hr := hz.2.2.2.2.2.2
  have hr1 := hz.2.2.2.2.1
  have ht' := ht
  obtain ⟨t1, t2, t3, t4, t5, t6, t7⟩ := ht
  unfold B_QG_readQuestion_58
  rw [show (ct M k s e).2.2.1 3 1 = kRf k from rfl, if_pos (kRf_kv t4)]
  simp only [kRf_is (j := 22) t4 (by omega) (by omega)]
  by_cases hb : k = 1 ∨ k = 36
  · right
    obtain ⟨b1, b2, b3⟩ := RS_bad hs hb
    have p5 : 0 < mr.1 387 5 := by rw [b1]; exact kUn_pos k
    rw [if_neg (by omega), q111_f mr p5 (by rw [b3.2.2.1 _ _ (by omega), hr1]; exact y_mq hr)]
    unfold B_QG_readQuestion_80
    rw [F_LX_at_eq M (s := s) (e := e) (j := 8) t4 (by omega) (by omega), if_neg (by omega), Option.bind_some]
    simp only [if_true]
    exact ⟨_, _, rfl, rfl, ⟨b1.symm, b2.symm, p5⟩, upq (fr_trans (fr_ct _ _ _ _) (fr_cf _ _ _)), upqr b3⟩
  · have x1 : k ≠ 1 := fun w => hb (Or.inl w)
    have x2 : k ≠ 36 := fun w => hb (Or.inr w)
    have hc' := hc x1 x2
    have eq := RS_good hs x1 x2
    subst eq
    have is := F_MD_isWord_eq R (s := s) (e := e) (w := 5) t4 x1 x2 (by omega)
    unfold B_MD_question_111
    rw [if_pos (show (rt R k s e).1 387 5 = 0 from Zl_5 hz.1), show (5 : Int32) = xI 5 from rfl, is, Option.bind_some]
    by_cases k22 : k = 22
    · subst k22
      rw [if_pos rfl, show bI (decide (22 = 17 + 5)) = 1 from rfl]
      simp only [show ((1 : Int32) = 0) = False from by decide, if_false]
      rcases ls_grouping hz hg t2 (show s ≤ n by omega) with ⟨M', R', mr', k', s', e', e0', ng', np', ns', fs', kd', sz', v1, v2, v3, v4, v5, v6, v7, v8, v9⟩ | ⟨mc, mr', v1, v2, v3, v4, v5⟩
      · rw [v1, v2, Option.bind_some, Option.bind_some]
        simp only [show ((1 : Int32) = 0) = False from by decide, if_false]
        have fw : fr (pQr r) (qQr r) R (x_wS R 387 25 (xI s)) := fr_wS _ _ _ _ (by unfold pQr; omega)
        have rw1 : ∀ b, (x_wS R 387 25 (xI s)).1 r b = R.1 r b := by
          intro b
          show (if r = 387 ∧ b = 25 then _ else _) = _
          rw [if_neg (by omega)]
        have c' : CndQ M' R' q r D cc jc sn G := CndQ_k hc' hq hz.2.1.2.2.1 (fun a b x y => v7.1 a b (by unfold pH; omega)) (fun a x y => v7.2.1 a (by unfold qH; omega)) (fun d hd => v7.1 _ _ (by unfold pH; omega)) ((v8.1 _ _ (by unfold pHr; omega)).trans (rw1 13)) ((v8.1 _ _ (by unfold pHr; omega)).trans (rw1 11)) (fun a x y => v8.2.1 a (by unfold qHr; omega))
        have i' : QI M' R' q r ni := QI_k hi (v7.1 _ _ (by unfold pH; omega)) ((v8.1 _ _ (by unfold pHr; omega)).trans (rw1 0)) (fun a x y => v7.2.1 a (by unfold qH; omega)) (fun a x y => v8.2.1 a (by unfold qHr; omega))
        rcases ls_q80 v5 v3 v4 i' h1 c' v6 ((v7.2.2.1 _ _ (by omega)).trans hq2) ((v8.2.2.1 _ _ (by omega)).trans hr2) hq2' hr2' with w | w
        · exact Or.inl (outQ_pre w (upHQ v7) (fr_trans fw (upHQr v8)) (by omega))
        · exact Or.inr (outQF_pre w (upHQ v7) (fr_trans fw (upHQr v8)))
      · right
        rw [v1, v2, Option.bind_some, Option.bind_some]
        simp only [if_true]
        rw [q130_f mr' v3.2.2 (by rw [v5.2.2.1 _ _ (by omega), hr1]; exact y_mq hr)]
        exact ⟨mc, mr', rfl, rfl, v3, v4, v5⟩
    · rw [if_neg k22, decide_eq_false (show ¬ k = 17 + 5 from k22), show bI false = 0 from rfl]
      simp only [if_true]
      exact ls_q80 hz hs ht' hi h1 hc' hg hq2 hr2 hq2' hr2'
theorem wS_same (m : x_m) (p k : Nat) (v : Int32) : (x_wS m p k v).1 p k = v := by
  show (if p = p ∧ k = k then _ else _) = _
  rw [if_pos ⟨rfl, rfl⟩]
def clM (m : x_m) (q : Nat) : x_m := x_wA (x_wA (x_wA (x_wS (x_wS (x_wS (x_wS (x_wS (x_wS m q 0 0) q 4 0) q 6 0) (q + 6) 0 0) (q + 6) 3 0) (q + 6) 1 0) (q + 6 + 7) 0 (-1)) (q + 6 + 8) 0 (-1)) (q + 6 + 9) 0 0
theorem F_QU_clear_eq (q : Nat) (m : x_m) : F_QU_clear q m = some (clM m q) := by
  unfold F_QU_clear F_CN_clear F_CN_clearLine clM
  simp only [xw_A1, wS_same, show x_ix 0 41 = true from by decide, if_true, Option.bind_some, show (0 : Int32).toNatClampNeg = 0 from by decide, nar_b (Or.inl rfl)]
def rsM (m : x_m) (q : Nat) : x_m := x_wS (x_wA (clM m q) (q + 5) 0 0) q 6 1
theorem F_QU_restart_eq (q : Nat) (m : x_m) : F_QU_restart q m = some (rsM m q) := by
  unfold F_QU_restart rsM
  rw [F_QU_clear_eq, Option.bind_some, if_pos (by decide)]
  rfl
theorem clM_ct (M : x_m) (k s e : Nat) {q : Nat} (hq : q = 115 ∨ q = 251) : clM (ct M k s e) q = ct (clM M q) k s e := by
  unfold clM
  rw [ct_wS _ _ _ _ _ (by omega), ct_wS _ _ _ _ _ (by omega), ct_wS _ _ _ _ _ (by omega), ct_wS _ _ _ _ _ (by omega), ct_wS _ _ _ _ _ (by omega), ct_wS _ _ _ _ _ (by omega), ct_wA, ct_wA, ct_wA]
theorem rsM_ct (M : x_m) (k s e : Nat) {q : Nat} (hq : q = 115 ∨ q = 251) : rsM (ct M k s e) q = ct (rsM M q) k s e := by
  unfold rsM
  rw [clM_ct M k s e hq, ct_wA, ct_wS _ _ _ _ _ (by omega)]
theorem clM_1 (m : x_m) (q a b : Nat) : (clM m q).1 a b = if a = q + 6 ∧ b = 1 then 0 else if a = q + 6 ∧ b = 3 then 0 else if a = q + 6 ∧ b = 0 then 0 else if a = q ∧ b = 6 then 0 else if a = q ∧ b = 4 then 0 else if a = q ∧ b = 0 then 0 else m.1 a b := rfl
theorem clM_2 (m : x_m) (q a i : Nat) : (clM m q).2.1 a i = if a = q + 6 + 9 ∧ i = 0 then 0 else if a = q + 6 + 8 ∧ i = 0 then -1 else if a = q + 6 + 7 ∧ i = 0 then -1 else m.2.1 a i := rfl
theorem fr_clM (m : x_m) (q : Nat) : fr (pQ q) (qQ q) m (clM m q) := by
  refine ⟨fun a b h => ?_, fun a h => ?_, fun _ _ _ => rfl, rfl⟩
  · unfold pQ at h
    rw [clM_1, if_neg (by omega), if_neg (by omega), if_neg (by omega), if_neg (by omega), if_neg (by omega), if_neg (by omega)]
  · unfold qQ at h
    funext i
    rw [clM_2, if_neg (by omega), if_neg (by omega), if_neg (by omega)]
theorem rsM_1 (m : x_m) (q a b : Nat) : (rsM m q).1 a b = if a = q ∧ b = 6 then 1 else (clM m q).1 a b := rfl
theorem rsM_2 (m : x_m) (q a i : Nat) : (rsM m q).2.1 a i = if a = q + 5 ∧ i = 0 then 0 else (clM m q).2.1 a i := rfl
theorem fr_rsM (m : x_m) (q : Nat) : fr (pQ q) (qQ q) m (rsM m q) := fr_trans (fr_clM m q) (fr_trans (fr_wA _ _ _ _ (by unfold qQ; omega)) (fr_wS _ _ _ _ (by unfold pQ; omega)))
def mqM (R : x_m) (r : Nat) : x_m := x_wS (x_wS (x_wS (x_wS (x_wS (x_wS R r 0 0) r 4 0) r 6 0) r 11 0) r 13 0) 387 24 0
theorem mqM_1 (R : x_m) (r a b : Nat) : (mqM R r).1 a b = if a = 387 ∧ b = 24 then 0 else if a = r ∧ b = 13 then 0 else if a = r ∧ b = 11 then 0 else if a = r ∧ b = 6 then 0 else if a = r ∧ b = 4 then 0 else if a = r ∧ b = 0 then 0 else R.1 a b := rfl
theorem fr_mqM (R : x_m) (r : Nat) : fr (pQr r) (qQr r) R (mqM R r) := by
  refine ⟨fun a b h => ?_, fun _ _ => rfl, fun _ _ _ => rfl, rfl⟩
  unfold pQr at h
  rw [mqM_1, if_neg (by omega), if_neg (by omega), if_neg (by omega), if_neg (by omega), if_neg (by omega), if_neg (by omega)]
theorem mqM_rt (R : x_m) (k s e : Nat) {r : Nat} (hr : r = 395 ∨ r = 409) : mqM (rt R k s e) r = rt (mqM R r) k s e := by
  unfold mqM
  rw [rt_wS _ _ _ _ _ (by omega), rt_wS _ _ _ _ _ (by omega), rt_wS _ _ _ _ _ (by omega), rt_wS _ _ _ _ _ (by omega), rt_wS _ _ _ _ _ (by omega), rt_wS _ _ _ _ _ (by omega)]
theorem F_MD_question_eq {m : x_m} {r : Nat} (hr1 : m.2.2.1 387 22 = r) (hr : r = 395 ∨ r = 409) : F_MD_question m = B_MD_question_47 x_fu 1 (mqM m r) := by
  unfold F_MD_question mqM
  simp only [show ∀ (m : x_m) (p k : Nat) (v : Int32), (x_wS m p k v).2.2.1 = m.2.2.1 from fun _ _ _ _ => rfl, hr1, y_mq hr, if_true]
theorem SPr_0 : SPr (fun _ => 0) 1 0 (fun _ => 0) (fun _ => 0) 0 := by
  refine ⟨fun i _ => (by show 0 < 2 ^ 0; decide), fun i j h1 h2 => by omega, fun m hm => ?_, rfl⟩
  have : m = 0 := by simp at hm; exact hm
  subst this
  exact ⟨fun _ => ⟨0, by omega, rfl⟩, fun _ => rfl⟩
theorem vld_0 (x : Nat) : ¬ vld 0 0 x := by unfold vld; omega
theorem ls_question {M R : x_m} {n D Ms q r s e q2 r2 : Nat} (hz : ZQ M R n D Ms q r) (hop : M.1 4 4 ≠ 0) (he : e ≤ n) (hq2 : M.2.2.1 114 3 = q2) (hr2 : R.2.2.1 387 21 = r2) (hq2' : q2 = 115 ∨ q2 = 251) (hr2' : r2 = 395 ∨ r2 = 409) :
    outQ n D q r q2 r2 M R (F_QG_readQuestion (ct M 20 s e)) (F_MD_question (rt R 20 s e)) (n - e) ∨ outQF q r M R (F_QG_readQuestion (ct M 20 s e)) (F_MD_question (rt R 20 s e)) := by
  have hq := hz.2.2.2.2.2.1
  have hr := hz.2.2.2.2.2.2
  have hq1 := hz.2.2.2.1
  have hr1 := hz.2.2.2.2.1
  have hn := hz.1.1
  have f0 := fr_rsM M q
  have g0 := fr_mqM R r
  have fz0 : Fz (rsM M q) R := Fz_S (Fz_A (Fz_A (Fz_A (Fz_A (Fz_S (Fz_S (Fz_S (Fz_S (Fz_S (Fz_S (Zl_f hz.1) (by omega)) (by omega)) (by omega)) (by omega)) (by omega)) (by omega)))))) (by omega)
  have z0 : ZQ (rsM M q) (mqM R r) n D Ms q r := ZQ_fr hz f0 g0 (Fz_Sr (Fz_Sr (Fz_Sr (Fz_Sr (Fz_Sr (Fz_Sr (fz0) (by omega)) (by omega)) (by omega)) (by omega)) (by omega)) (by omega))
  have i0 : QI (rsM M q) (mqM R r) q r 0 := by
    refine ⟨by omega, ?_, ?_, fun i hi => by omega⟩
    · rw [rsM_1, if_neg (by omega), clM_1, if_neg (by omega), if_neg (by omega), if_neg (by omega), if_neg (by omega), if_neg (by omega), if_pos ⟨rfl, rfl⟩]; rfl
    · rw [mqM_1, if_neg (by omega), if_neg (by omega), if_neg (by omega), if_neg (by omega), if_neg (by omega), if_pos ⟨rfl, rfl⟩]; rfl
  have c0 : (rsM M q).1 (q + 6) 0 = xI 0 ∧ (rsM M q).1 (q + 6) 3 = xI 0 ∧ (rsM M q).1 (q + 6) 1 = xI 0 := by
    refine ⟨?_, ?_, ?_⟩
    · rw [rsM_1, if_neg (by omega), clM_1, if_neg (by omega), if_neg (by omega), if_pos ⟨rfl, rfl⟩]; rfl
    · rw [rsM_1, if_neg (by omega), clM_1, if_neg (by omega), if_pos ⟨rfl, rfl⟩]; rfl
    · rw [rsM_1, if_neg (by omega), clM_1, if_pos ⟨rfl, rfl⟩]; rfl
  have l0 : (rsM M q).2.1 (q + 6 + 7) 0 = -1 ∧ (rsM M q).2.1 (q + 6 + 8) 0 = -1 ∧ (rsM M q).2.1 (q + 6 + 9) 0 = 0 := by
    refine ⟨?_, ?_, ?_⟩
    · rw [rsM_2, if_neg (by omega), clM_2, if_neg (by omega), if_neg (by omega), if_pos ⟨rfl, rfl⟩]
    · rw [rsM_2, if_neg (by omega), clM_2, if_neg (by omega), if_pos ⟨rfl, rfl⟩]
    · rw [rsM_2, if_neg (by omega), clM_2, if_pos ⟨rfl, rfl⟩]
  have d0 : (mqM R r).1 r 13 = xI 0 ∧ (mqM R r).1 r 11 = xI 0 ∧ (mqM R r).1 387 24 = xI 0 := by
    refine ⟨?_, ?_, rfl⟩
    · rw [mqM_1, if_neg (by omega), if_pos ⟨rfl, rfl⟩]; rfl
    · rw [mqM_1, if_neg (by omega), if_neg (by omega), if_pos ⟨rfl, rfl⟩]; rfl
  have gs0 : GS (rsM M q) (mqM R r) q r 0 0 1 (fun _ => 0) (fun _ => 0) (fun _ => 0) := by
    refine ⟨⟨by omega, ?_, ?_, fun i hi => by omega⟩, ?_, by omega, fun i hi => by omega, ?_, by omega, by omega, fun i hi => ?_, SPr_0⟩
    · rw [rsM_1, if_neg (by omega), clM_1, if_neg (by omega), if_neg (by omega), if_neg (by omega), if_neg (by omega), if_pos ⟨rfl, rfl⟩]; rfl
    · rw [mqM_1, if_neg (by omega), if_neg (by omega), if_neg (by omega), if_neg (by omega), if_pos ⟨rfl, rfl⟩]; rfl
    · rw [mqM_1, if_neg (by omega), if_neg (by omega), if_neg (by omega), if_pos ⟨rfl, rfl⟩]; rfl
    · rw [rsM_1, if_pos ⟨rfl, rfl⟩]; rfl
    · have : i = 0 := by omega
      subst this
      rw [rsM_2, if_pos ⟨rfl, rfl⟩]; rfl
  have q20 : (rsM M q).2.2.1 114 3 = q2 := hq2
  have r20 : (mqM R r).2.2.1 387 21 = r2 := hr2
  unfold F_QG_readQuestion
  rw [ct_o _ _ _ _ _ (by omega), if_neg hop, show (ct M 20 s e).2.2.1 114 4 = q from hq1, if_pos (y_qb hq), F_QU_restart_eq, Option.bind_some, rsM_ct M 20 s e hq, F_MD_question_eq (m := rt R 20 s e) hr1 hr, mqM_rt R 20 s e hr]
  generalize rsM M q = M0 at *
  generalize mqM R r = R0 at *
  unfold F_QG_readItems
  rcases ls_items (n := n) (D := D) (Ms := Ms) (q := q) (r := r) (n - e + 1) M0 R0 20 s e 0 x_fu x_fu (by omega) z0 i0 he (by unfold x_fu; omega) (by unfold x_fu; omega) with ⟨M1, R1, mr, k', s', e', e0, ni', g', a1, a2, a3, a4, a5, a6, a7, a8, a9, a10, a11, a12⟩ | ⟨mc, mr, a1, a2, a3, a4, a5⟩
  · rw [show xI 0 = 0 from rfl] at a2
    rw [a2, a3, Option.bind_some]
    simp only [show ((1 : Int32) = 0) = False from by decide, if_false]
    have a5' := a5
    obtain ⟨t1, t2, t3, t4, t5, t6, t7⟩ := a5
    have q1 := mu_ge n k' e'
    have q21 : M1.2.2.1 114 3 = q2 := (a8.2.2.1 _ _ (by omega)).trans q20
    have r21 : R1.2.2.1 387 21 = r2 := (a9.2.2.1 _ _ (by omega)).trans r20
    have cst : CSt M1 R1 n D Ms q r 0 0 0 0 := ⟨a6, ⟨(a8.1 _ _ (by unfold pI; omega)).trans c0.1, (a8.1 _ _ (by unfold pI; omega)).trans c0.2.1, (a8.1 _ _ (by unfold pI; omega)).trans c0.2.2, by omega, by omega, by omega, fun j hj => by omega, fun x hx => absurd hx (vld_0 x)⟩, (a9.1 _ _ (by unfold pIr; omega)).trans d0.1, (a9.1 _ _ (by unfold pIr; omega)).trans d0.2.1, (a9.1 _ _ (by unfold pIr; omega)).trans d0.2.2, fun i hi => by omega, by omega⟩
    have gs1 : GS M1 R1 q r 0 0 1 (fun _ => 0) (fun _ => 0) (fun _ => 0) := by
      obtain ⟨b1, b2, b3, b4, b5, b6, b7, b8, b9⟩ := gs0
      refine ⟨GQ_k b1 (a8.1 _ _ (by unfold pI; omega)) (a9.1 _ _ (by unfold pIr; omega)) (a8.2.1 _ (by unfold qI; omega)) (a9.2.1 _ (by unfold qIr; omega)), (a9.1 _ _ (by unfold pIr; omega)).trans b2, b3, fun i hi => by omega, (a8.1 _ _ (by unfold pI; omega)).trans b5, b6, b7, fun i hi => ?_, b9⟩
      rw [a8.2.1 _ (by unfold qI; omega)]; exact b8 i hi
    have cnd0 : CndQ M1 R1 q r D 0 0 0 (fun _ => true) := ⟨cst.2.1, cst.2.2.1, cst.2.2.2.1, fun i hi => by omega, by omega, fun _ => ⟨rfl, rfl⟩, fun h => by omega⟩
    rw [show (ct M1 k' s' e').2.2.1 3 1 = kRf k' from rfl, if_pos (kRf_kv t4)]
    simp only [kRf_is (j := 21) t4 (by omega) (by omega)]
    have F0 : fr (pQ q) (qQ q) M M1 := fr_trans f0 (upI a8)
    have G0 : fr (pQr r) (qQr r) R R1 := fr_trans g0 (upIr a9)
    rw [B_MD_question_47, if_pos rfl]
    by_cases hb : k' = 1 ∨ k' = 36
    · obtain ⟨b1, b2, b3⟩ := RS_bad a4 hb
      have p5 : 0 < mr.1 387 5 := by rw [b1]; exact kUn_pos k'
      rw [if_neg (by omega), if_neg (ne_pos p5)]
      rcases ls_q58 a6 a4 a5' a7 a1 (fun _ _ => cnd0) gs1 q21 r21 hq2' hr2' with w | w
      · exact Or.inl (outQ_pre w F0 G0 (by omega))
      · exact Or.inr (outQF_pre w F0 G0)
    · have x1 : k' ≠ 1 := fun w => hb (Or.inl w)
      have x2 : k' ≠ 36 := fun w => hb (Or.inr w)
      have eq := RS_good a4 x1 x2
      subst eq
      have is := F_MD_isWord_eq R1 (s := s') (e := e') (w := 4) t4 x1 x2 (by omega)
      rw [if_pos (show (rt R1 k' s' e').1 387 5 = 0 from Zl_5 a6.1), show (4 : Int32) = xI 4 from rfl, is, Option.bind_some]
      by_cases k21 : k' = 21
      · subst k21
        rw [if_pos rfl, show bI (decide (21 = 17 + 4)) = 1 from rfl]
        simp only [show ((1 : Int32) = 0) = False from by decide, if_false]
        have hb : ((F_MD_read (rt R1 21 s' e')).bind fun r104 => (F_MD_either 42 r104).bind fun r108 => B_MD_question_111 r108) = ((F_MD_read (rt R1 21 s' e')).bind (F_MD_either 42)).bind B_MD_question_111 := by
          cases F_MD_read (rt R1 21 s' e') <;> rfl
        rw [hb]
        rcases ls_where cst t2 (by rw [a8.2.1 _ (by unfold qI; omega)]; exact l0.1) (by rw [a8.2.1 _ (by unfold qI; omega)]; exact l0.2.1) (by rw [a8.2.1 _ (by unfold qI; omega)]; exact l0.2.2) (s := s') with ⟨M2, R2, mr2, k2, s2, e2, e02, cc, jc, sn, G, b1, b2, b3, b4, b5, b6, b7, b8, b9, b10, b11⟩ | ⟨mc, mr2, b1, b2, b3, b4, b5⟩
        · rw [b1, b2, Option.bind_some, Option.bind_some]
          simp only [show ((1 : Int32) = 0) = False from by decide, if_false]
          have i2 : QI M2 R2 q r ni' := QI_k a7 (b10.1 _ _ (by unfold pW; omega)) (b11.1 _ _ (by unfold pWr; omega)) (fun a x y => b10.2.1 a (by unfold qW; omega)) (fun a x y => b11.2.1 a (by unfold qWr; omega))
          have gs2 : GS M2 R2 q r 0 0 1 (fun _ => 0) (fun _ => 0) (fun _ => 0) := by
            obtain ⟨y1, y2, y3, y4, y5, y6, y7, y8, y9⟩ := gs1
            refine ⟨GQ_k y1 (b10.1 _ _ (by unfold pW; omega)) (b11.1 _ _ (by unfold pWr; omega)) (b10.2.1 _ (by unfold qW; omega)) (b11.2.1 _ (by unfold qWr; omega)), (b11.1 _ _ (by unfold pWr; omega)).trans y2, y3, fun i hi => by omega, (b10.1 _ _ (by unfold pW; omega)).trans y5, y6, y7, fun i hi => ?_, y9⟩
            rw [b10.2.1 _ (by unfold qW; omega)]; exact y8 i hi
          have cn2 : k2 ≠ 1 → k2 ≠ 36 → CndQ M2 R2 q r D cc jc sn G := fun u v => ⟨b6.2.1, b6.2.2.1, b6.2.2.2.1, b6.2.2.2.2.2.1, b6.2.2.2.2.2.2, fun z => by omega, fun _ => ⟨b8 u v, b9⟩⟩
          rcases ls_q58 b6.1 b3 b4 i2 a1 cn2 gs2 ((b10.2.2.1 _ _ (by omega)).trans q21) ((b11.2.2.1 _ _ (by omega)).trans r21) hq2' hr2' with w | w
          · exact Or.inl (outQ_pre w (fr_trans F0 (upWQ b10)) (fr_trans G0 (upWQr b11)) (by omega))
          · exact Or.inr (outQF_pre w (fr_trans F0 (upWQ b10)) (fr_trans G0 (upWQr b11)))
        · right
          rw [b1, b2, Option.bind_some, Option.bind_some]
          simp only [if_true]
          have r12 := a6.2.2.2.2.1
          rw [q111_f mr2 b3.2.2 (by rw [b5.2.2.1 _ _ (by omega), r12]; exact y_mq hr)]
          exact ⟨mc, mr2, rfl, rfl, b3, fr_trans F0 (upWQ b4), fr_trans G0 (upWQr b5)⟩
      · rw [if_neg k21, decide_eq_false (show ¬ k' = 17 + 4 from k21), show bI false = 0 from rfl]
        simp only [if_true]
        rcases ls_q58 a6 a4 a5' a7 a1 (fun _ _ => cnd0) gs1 q21 r21 hq2' hr2' with w | w
        · exact Or.inl (outQ_pre w F0 G0 (by omega))
        · exact Or.inr (outQF_pre w F0 G0)
  · right
    rw [show xI 0 = 0 from rfl] at a1
    rw [a1, a2, Option.bind_some]
    simp only [if_true]
    exact ⟨mc, mr, rfl, rfl, a3, fr_trans f0 a4, fr_trans g0 a5⟩
