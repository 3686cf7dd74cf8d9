/-! a comparison as a part -/
theorem CI_P {M M' : x_m} {q cc jc dp i : Nat} (hq : q = 115 ∨ q = 251) (h : CI M (q + 6) cc jc dp) (f : fr (pP (q + 16 + 2 * i)) (qP (q + 16 + 2 * i)) M M') : CI M' (q + 6) cc jc dp ∧ (∀ a, a ≤ q + 15 → M'.2.1 a = M.2.1 a) := by
  have e2 : ∀ a, a ≤ q + 15 → M'.2.1 a = M.2.1 a := fun a ha => f.2.1 a (by unfold qP; omega)
  exact ⟨CI_ag h ⟨fun j _ => ⟨congrFun (e2 _ (by omega)) _, congrFun (e2 _ (by omega)) _, congrFun (e2 _ (by omega)) _⟩, fun x _ => congrFun (e2 _ (by omega)) _⟩ (fun b => f.1 _ _ (by unfold pP; omega)), e2⟩
/-- the not before a part -/
theorem s133_f (Ei : x_m → Option x_m) (l1 : Int32) (m : x_m) (h : m.1 387 5 ≠ 0) : B_MD_single_133 Ei l1 m = some m := by
  unfold B_MD_single_133 B_MD_single_142
  rw [F_MD_say_f _ m h]
  split <;> rfl
theorem s133_ok (Ei : x_m → Option x_m) {R : x_m} {n D Ms q r cc jc dp sn k s e : Nat} {M : x_m} (nt : Bool) (h : CSt M R n D Ms q r cc jc dp sn) (hb : sn + 1 ≤ 43 * cc) (hc : cc ≤ 60) : B_MD_single_133 Ei (bI nt) (rt R k s e) = some (rt (if nt = true then sayS R r sn (-1) else R) k s e) := by
  have hr := h.1.2.2.2.2.2.2
  unfold B_MD_single_133 B_MD_single_142
  simp only [bI_0]
  cases nt
  · rw [if_pos rfl, if_neg (by decide)]
  · rw [if_neg (by decide), if_pos rfl, F_MD_say_eq (m := rt R k s e) (-1) (Zl_5 h.1.1) h.1.2.2.2.2.1 hr (show (if r = 387 then _ else R.1 r 11) = xI sn by rw [if_neg (by omega)]; exact h.2.2.2.1) (by omega), Option.bind_some, sayS_rt _ _ _ _ hr]
theorem ls_scmp (Ei : x_m → Option x_m) {M R mr : x_m} {n D Ms q r cc jc dp sn k s e e0 f pt : Nat} (h : CSt M R n D Ms q r cc jc dp sn) (hs : RS R mr k s e) (ht : TF n e0 k s e) (h33 : k ≠ 33) (h5 : k ≠ 5) (hpt : pt + mu n k e ≤ n + 1) (hf : mu n k e < f + 1) (nt : Bool) (hna : M.2.1 (q + 6 + 9) dp = bI nt) (ob : Option Nat) (hob : slt cc jc (M.2.1 (q + 6 + 8) dp) ob) (hjb : jc + (if ob = none then 0 else 1) ≤ cc) :
    outB n D Ms q r dp (42 - dp) 0 M R cc jc sn (mu n k e) ob (B_QG_readWhere_17 (f + 1) (q + 6) (xI pt) (ct M k s e)) ((F_MD_comparison mr).bind fun r130 => B_MD_single_133 Ei (bI nt) r130) (fun _ => True) ∨
    outF q r M R (B_QG_readWhere_17 (f + 1) (q + 6) (xI pt) (ct M k s e)) ((F_MD_comparison mr).bind fun r130 => B_MD_single_133 Ei (bI nt) r130) := by
  obtain ⟨z, hI, h13, h11, h24, hcm, hsn⟩ := h
  have hq := z.2.2.2.2.2.1
  have hr := z.2.2.2.2.2.2
  have hn := z.1.1
  have c60 := hI.2.2.2.1
  have d40 := hI.2.2.2.2.2.1
  have j59 := hI.2.2.2.2.1
  have hD8 := z.2.1.2.2.1
  have mg := mu_ge n k e
  rw [where_cmp f (by have := ht.2.1; omega) ht.2.2.2.1 h33 h5]
  rcases ls_cmp z hs ht hI.1 h13 c60 h11 (by omega) with ⟨M1, R1, k1, s1, e1, a1, ak3, a2, a3, a4, a5, a6, a7, a8, a9, a10⟩ | ⟨mc, mr', a1, a2, a3, a4, a5⟩
  · left
    obtain ⟨I1, e2⟩ := CI_P hq hI a6
    have na1 : M1.2.1 (q + 6 + 9) dp = bI nt := (congrFun (e2 _ (by omega)) _).trans hna
    have ob1 : slt cc jc (M1.2.1 (q + 6 + 8) dp) ob := by rw [congrFun (e2 _ (by omega)) _]; exact hob
    have agM1 : agM M M1 (q + 6) cc jc := ⟨fun j _ => ⟨congrFun (e2 _ (by omega)) _, congrFun (e2 _ (by omega)) _, congrFun (e2 _ (by omega)) _⟩, fun x _ => congrFun (e2 _ (by omega)) _⟩
    have ln1 : lnK M M1 (q + 6) dp := fun i _ => ⟨congrFun (e2 _ (by omega)) _, congrFun (e2 _ (by omega)) _, congrFun (e2 _ (by omega)) _⟩
    obtain ⟨M2, b', jc', b1, b2, b3, b4, b5, b6, b7, b8, b9, b10, b11, b12, b13, b14⟩ := addComing_spec (k := k1) (s := s1) (e := e1) (show q + 6 ≠ 3 by omega) I1 a1 nt na1 ob ob1 (fun hne => by rw [if_neg hne] at hjb; omega)
    rw [a2, a3, Option.bind_some]
    simp only [show ((1 : Int32) = 0) = False from by decide, if_false]
    rw [b1, Option.bind_some]
    -- the state behind the comparison
    have sr1 : ∀ x y, (sayC R1 r cc sn).1 x y = if x = r ∧ y = 11 then xI (sn + 1) else if x = r ∧ y = 13 then xI (cc + 1) else R1.1 x y := fun x y => rfl
    have sr2 : ∀ x y, (sayC R1 r cc sn).2.1 x y = if x = r + 8 ∧ y = sn then xI cc else R1.2.1 x y := fun x y => rfl
    have z2 : ZQ M2 (sayC R1 r cc sn) n D Ms q r := ZW_fr a4 (upNQ b13) (fr_sayC _ _ _ _) (Fz_Sr (Fz_Ar (Fz_Sr (Fz_f (Zl_f a4.1) b13 (by unfold pN; omega) (by unfold pN; omega)) (by omega))) (by omega))
    have cm2 : ∀ i, i < cc + 1 → CmpR M2 (sayC R1 r cc sn) q r D i := by
      have cm1 : ∀ i, i < cc + 1 → CmpR M1 R1 q r D i := by
        intro i hi
        by_cases ei : i = cc
        · rw [ei]; exact a5
        · exact CmpR_keep (hcm i (by omega)) ei hq (by omega) hD8 (fun b => a6.1 _ _ (by unfold pP; omega)) (a6.2.1 _ (by unfold qP; omega)) (fun d _ => a6.1 _ _ (by unfold pP; omega)) a8
      refine Cmps_fr hq hD8 (by omega) cm1 (fun i b _ => b13.1 _ _ (by unfold pN; omega)) (fun i _ => b13.2.1 _ (by unfold qN'; omega)) (fun d _ => b13.1 _ _ (by unfold pN; omega)) (fun x h1 h2 => ?_)
      funext y
      rw [sr2, if_neg (by omega)]
    have st2 : CSt M2 (sayC R1 r cc sn) n D Ms q r (cc + 1) jc' dp (sn + 1) := ⟨z2, b2, by rw [sr1, if_neg (by omega), if_pos ⟨rfl, rfl⟩], by rw [sr1, if_pos ⟨rfl, rfl⟩], by rw [sr1, if_neg (by omega), if_neg (by omega), a7.1 _ _ (by unfold pR; omega)]; exact h24, cm2, by omega⟩
    have fM2 : fr (pW q) (qW q) M M2 := fr_trans (upPQ a1 a6) (upNQ b13)
    have fR2 : fr (pWr r) (qWr r) R (sayC R1 r cc sn) := fr_trans (upPQr a7) (fr_sayC _ _ _ _)
    have sgn2 : (sayC R1 r cc sn).2.1 (r + 8) sn = xI cc := by rw [sr2, if_pos ⟨rfl, rfl⟩]
    have sgo2 : ∀ j, j < sn → (sayC R1 r cc sn).2.1 (r + 8) j = R.2.1 (r + 8) j := by
      intro j hj
      rw [sr2, if_neg (by omega)]
      exact congrFun (a7.2.1 _ (by unfold qPr; omega)) j
    have tM : ∀ a, tvL M1 (q + 6) a jc = tvL M (q + 6) a jc := by
      intro a
      have : ∀ j, tvL M1 (q + 6) a j = tvL M (q + 6) a j := by
        intro j
        induction j with
        | zero => funext x; show (a x != decide (M1.2.1 (q + 6 + 5) x = 1)) = _; rw [e2 _ (by omega)]; rfl
        | succ j ih => funext x; rw [tvL, tvL, e2 _ (by omega), e2 _ (by omega), e2 _ (by omega), e2 _ (by omega), ih]
      exact this jc
    generalize sayC R1 r cc sn = R2 at *
    obtain ⟨M3, R3, mr3, k3, s3, e3, i1, i2, i3, i4, i5, i6, i7, i8, i9⟩ := stepQ z2 (k := k1) (s := s1) a9
    have st3 := CSt_tok st2 i4 i5 i6
    rw [i1, i2, Option.bind_some, Option.bind_some]
    have e2' := tok_2 i5
    have e3' : R3.2.1 = R2.2.1 := by funext x; exact i6.2.1 x id
    have := i7.1
    have := i7.2.2.1
    have hW : 2 ≤ 42 - dp := by omega
    have hmu : mu n k3 e3 < n - e ∧ e < e3 ∧ e3 ≤ n := by
      obtain ⟨t1, t2, t3, t4, t5, t6, t7⟩ := i7
      unfold mu
      by_cases z : k3 = 0
      · rw [if_pos z]; omega
      · rw [if_neg z]; have := t5 z; omega
    have core : ∀ (R4 mr4 : x_m) (sn4 : Nat), sn + 1 ≤ sn4 → sn4 ≤ sn + 2 → RS R4 mr4 k3 s3 e3 → CSt M3 R4 n D Ms q r (cc + 1) jc' dp sn4 → fr (pWr r) (qWr r) R3 R4 → (∀ j, j < sn + 1 → R4.2.1 (r + 8) j = R3.2.1 (r + 8) j) → (k3 ≠ 1 → k3 ≠ 36 → Seg (R4.2.1 (r + 8)) sn sn4 cc (cc + 1) (fun a => a cc != nt)) →
        outB n D Ms q r dp (42 - dp) 0 M R cc jc sn (mu n k e) ob (Post x_fu f (q + 6) (xI pt) (ct M3 k3 s3 e3)) (some mr4) (fun _ => True) := by
      intro R4 mr4 sn4 s1' s2' rs4 st4 f4 sg4 sg
      refine ⟨M3, R4, mr4, k3, s3, e3, e1, f, pt, x_fu, cc + 1, jc', sn4, b', fun a => a cc != nt, ⟨rfl, rfl, rs4, i7, by omega, by omega, by omega, by unfold x_fu; omega, trivial⟩, ⟨st4, by omega, ?_, ?_, ?_, b4, b5, ?_, ?_, ?_, by rw [b11]; omega, ?_, ?_, ?_⟩, ⟨?_, by omega, ?_, sg, ?_, ?_, ?_⟩⟩
      · rw [e2', b6]; exact congrFun (e2 _ (by omega)) _
      · rw [e2']; exact b7
      · rw [e2']; exact b3
      · exact lnK_trans ln1 (lnK_trans b8 (fun i _ => by rw [e2']; exact ⟨rfl, rfl, rfl⟩) (Nat.le_refl _)) (Nat.le_refl _)
      · exact agM_trans agM1 (agM_trans b9 (tok_ag i5 _ cc jc) (Nat.le_refl _) (Nat.le_refl _)) (Nat.le_refl _) (Nat.le_refl _)
      · exact clo_ag b10 (tok_ag i5 _ cc jc) (Nat.le_refl _)
      · rw [b11]; split <;> omega
      · intro hj
        by_cases ho : ob = none
        · exact b14.1 ho
        · rw [b11, if_neg ho] at hj; omega
      · intro hj
        by_cases ho : ob = none
        · rw [b11, if_pos ho] at hj; omega
        · rw [b14.2 ho, b11, if_neg ho]; omega
      · intro j hj
        rw [sg4 j (by omega), e3']; exact sgo2 j hj
      · rw [Nat.add_sub_cancel_left, Nat.mul_one]; omega
      · intro a
        rw [tvL_2 e2', b12 a, tM a]
      · exact fr_trans fM2 (upw i5)
      · exact fr_trans fR2 (fr_trans (upwr i6) f4)
    have sg1 : Seg (R3.2.1 (r + 8)) sn (sn + 1) cc (cc + 1) (fun a => a cc) := Seg_cmp (by rw [e3']; exact sgn2) a1
    by_cases hb : k3 = 1 ∨ k3 = 36
    · obtain ⟨y1, y2, y3⟩ := RS_bad i3 hb
      rw [s133_f Ei _ mr3 (by rw [y1]; exact kUn_ne k3)]
      exact core R3 mr3 (sn + 1) (Nat.le_refl _) (by omega) i3 st3 (fr_refl _ _ _) (fun _ _ => rfl) (fun u v => absurd hb (by omega))
    · have g1 : k3 ≠ 1 := fun w => hb (Or.inl w)
      have g2 : k3 ≠ 36 := fun w => hb (Or.inr w)
      have eq := RS_good i3 g1 g2
      subst eq
      rw [s133_ok Ei nt st3 (by omega) (by omega)]
      cases nt
      · refine core R3 _ (sn + 1) (Nat.le_refl _) (by omega) (Or.inl ⟨g1, g2, rfl⟩) st3 (fr_refl _ _ _) (fun _ _ => rfl) (fun _ _ => ?_)
        refine ⟨sg1.1, sg1.2.1, sg1.2.2.1, fun a st hs => ?_⟩
        rw [sg1.2.2.2 a st hs]
        show some (a cc :: st) = some ((a cc != false) :: st)
        cases a cc <;> rfl
      · have r2 : ∀ x y, (sayS R3 r (sn + 1) (-1)).2.1 x y = if x = r + 8 ∧ y = sn + 1 then -1 else R3.2.1 x y := fun x y => rfl
        have sg2 : ∀ j, j < sn + 1 → (sayS R3 r (sn + 1) (-1)).2.1 (r + 8) j = R3.2.1 (r + 8) j := by
          intro j hj
          rw [r2, if_neg (by omega)]
        refine core (sayS R3 r (sn + 1) (-1)) _ (sn + 2) (by omega) (by omega) (Or.inl ⟨g1, g2, rfl⟩) (CSt_say (-1) st3 (by omega)) (fr_say _ _ _ _) sg2 (fun _ _ => ?_)
        have s3' := Seg_not (Seg_congr (g' := (sayS R3 r (sn + 1) (-1)).2.1 (r + 8)) sg1 (fun j _ hj => sg2 j hj)) (by rw [r2, if_pos ⟨rfl, rfl⟩])
        refine ⟨s3'.1, s3'.2.1, s3'.2.2.1, fun a st hs => ?_⟩
        rw [s3'.2.2.2 a st hs]
        show some ((!a cc) :: st) = some ((a cc != true) :: st)
        cases a cc <;> rfl
  · right
    rw [a1, a2, Option.bind_some, Option.bind_some]
    simp only [if_true]
    rw [s133_f Ei _ mr' (ne_pos a3.2.2)]
    exact ⟨mc, mr', rfl, rfl, a3, a4, a5⟩
