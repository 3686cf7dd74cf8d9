/-! not, brackets -/
theorem tvL_5 {M M' : x_m} {p : Nat} (h : ∀ a, p + 2 ≤ a → a ≤ p + 5 → M'.2.1 a = M.2.1 a) (a : Nat → Bool) : ∀ j, tvL M' p a j = tvL M p a j := by
  intro j
  induction j with
  | zero => funext x; show (a x != decide (M'.2.1 (p + 5) x = 1)) = _; rw [h _ (by omega) (by omega)]; rfl
  | succ j ih => funext x; rw [tvL, tvL, h _ (by omega) (by omega), h _ (by omega) (by omega), h _ (by omega) (by omega), h _ (by omega) (by omega), ih]
theorem outB_pre {n D Ms q r dp W ex : Nat} {M0 R0 M R : x_m} {cc jc sn u0 u : Nat} {ob : Option Nat} {C : Option (Int32 × x_m)} {S : Option x_m} {bad : Nat → Prop} (h : outB n D Ms q r dp W ex M R cc jc sn u ob C S bad)
    (h7 : M.2.1 (q + 6 + 7) dp = M0.2.1 (q + 6 + 7) dp) (hl : lnK M0 M (q + 6) dp) (ha : agM M0 M (q + 6) cc jc) (ht : ∀ a, tvL M (q + 6) a jc = tvL M0 (q + 6) a jc) (hs : ∀ j, j < sn → R.2.1 (r + 8) j = R0.2.1 (r + 8) j) (f : fr (pW q) (qW q) M0 M) (g : fr (pWr r) (qWr r) R0 R) (he : u ≤ u0) : outB n D Ms q r dp W ex M0 R0 cc jc sn u0 ob C S bad := by
  obtain ⟨M', R', mr', k', s', e', e0', f', pt', h', cc', jc', sn', b', G, ⟨a1, a2, a3, a4, a5, a6, a7, a8, a9⟩, ⟨b1, b2, b3, b4, b5, b6, b7, b8, b9, b10, b11, b12, b13⟩, ⟨c1, c2, c3, c4, c5, c6, c7⟩⟩ := h
  refine ⟨M', R', mr', k', s', e', e0', f', pt', h', cc', jc', sn', b', G, ⟨a1, a2, a3, a4, by omega, a6, a7, a8, a9⟩, ⟨b1, b2, b3.trans h7, b4, b5, b6, b7, lnK_trans hl b8 (Nat.le_refl _), agM_trans ha b9 (Nat.le_refl _) (Nat.le_refl _), b10, b11, b12, b13⟩, ⟨fun j hj => (c1 j hj).trans (hs j hj), c2, c3, c4, fun a => ?_, fr_trans f c6, fr_trans g c7⟩⟩
  rw [c5 a, ht a]
theorem outF_pre {q r : Nat} {M0 R0 M R : x_m} {C : Option (Int32 × x_m)} {S : Option x_m} (h : outF q r M R C S) (f : fr (pW q) (qW q) M0 M) (g : fr (pWr r) (qWr r) R0 R) : outF q r M0 R0 C S := by
  obtain ⟨mc, mr, a1, a2, a3, a4, a5⟩ := h
  exact ⟨mc, mr, a1, a2, a3, fr_trans f a4, fr_trans g a5⟩
/-- what either() comes to -/
def outE (n D Ms q r dp : Nat) (M R : x_m) (cc jc sn u : Nat) (C : Option (Int32 × x_m)) (S : Option x_m) : Prop := ∃ (M' R' mr' : x_m) (k' s' e' e0' f' pt' h' cc' jc' sn' b' : Nat) (oo : Option Nat) (g : (Nat → Bool) → Bool),
  (C = Post h' f' (q + 6) (xI pt') (ct M' k' s' e') ∧ S = some mr' ∧ RS R' mr' k' s' e' ∧ TF n e0' k' s' e' ∧ mu n k' e' < u ∧ pt' + mu n k' e' ≤ n + 1 ∧ mu n k' e' < f' ∧ dp < h' ∧ k' ≠ 31 ∧ k' ≠ 32) ∧
  (CSt M' R' n D Ms q r cc' jc' dp sn' ∧ cc < cc' ∧ slt cc' jc' (M'.2.1 (q + 6 + 7) dp) oo ∧ M'.2.1 (q + 6 + 9) dp = 0 ∧ M'.2.1 (q + 6 + 8) dp = xI b' ∧ vld cc' jc' b' ∧ ¬ vld cc jc b' ∧ lnK M M' (q + 6) dp ∧ agM M M' (q + 6) cc jc ∧ clo M' (q + 6) cc jc ∧ jc ≤ jc' ∧ cc' + jc = cc + jc' + (if oo = none then 1 else 2) ∧ (oo = none → (jc' = jc → b' = cc) ∧ (jc < jc' → b' = 60 + jc' - 1))) ∧
  ((∀ j, j < sn → R'.2.1 (r + 8) j = R.2.1 (r + 8) j) ∧ sn ≤ sn' ∧ sn' + 1 ≤ sn + (43 - dp) * (cc' - cc) ∧ (k' ≠ 1 → k' ≠ 36 → Seg (R'.2.1 (r + 8)) sn sn' cc cc' g) ∧ (∀ a, orV (oo.map (tvL M' (q + 6) a jc')) (tvL M' (q + 6) a jc' b') = g a) ∧ fr (pW q) (qW q) M M' ∧ fr (pWr r) (qWr r) R R')
/-- either() goes in step, at depth dp, for what is left of the text -/
def EI (n D Ms q r dp w : Nat) (Ei : x_m → Option x_m) : Prop := ∀ (M R mr : x_m) (k s e e0 f pt cc jc sn : Nat), mu n k e < w → CSt M R n D Ms q r cc jc dp sn → RS R mr k s e → TF n e0 k s e → pt + mu n k e ≤ n + 1 → mu n k e < f → M.2.1 (q + 6 + 7) dp = -1 → M.2.1 (q + 6 + 8) dp = -1 → M.2.1 (q + 6 + 9) dp = 0 → jc ≤ cc →
  outE n D Ms q r dp M R cc jc sn (mu n k e) (B_QG_readWhere_17 f (q + 6) (xI pt) (ct M k s e)) (Ei mr) ∨ outF q r M R (B_QG_readWhere_17 f (q + 6) (xI pt) (ct M k s e)) (Ei mr)
theorem s101_f (Ei : x_m → Option x_m) (l1 : Int32) (m : x_m) (h : 0 < m.1 387 5) : B_MD_single_101 Ei l1 m = some (x_wS m 387 24 (m.1 387 24 - 1)) := by
  obtain ⟨b, hb⟩ := F_MD_isSign_any 41 m
  unfold B_MD_single_101
  rw [hb, Option.bind_some]
  simp only [F_MD_must_f m _ (ne_pos h), Option.bind_some]
  rw [F_MD_read_f _ (show 0 < (x_wS m 387 24 (m.1 387 24 - 1)).1 387 5 from h), Option.bind_some, s133_f _ _ _ (show (x_wS m 387 24 (m.1 387 24 - 1)).1 387 5 ≠ 0 from ne_pos h)]
theorem fr_24 (r : Nat) (m : x_m) (v : Int32) : fr (pWr r) (qWr r) m (x_wS m 387 24 v) := fr_wS _ _ _ _ (by unfold pWr; omega)
theorem Flt_24 {mc m : x_m} (h : Flt mc m) (v : Int32) : Flt mc (x_wS m 387 24 v) := h
/-- the class at a token that ends a condition within brackets -/
theorem post_end {M : x_m} {p cc jc dp b k s e h f : Nat} (pt : Int32) (hp : p ≠ 3) (hI : CI M p cc jc dp) (hd : 0 < dp) (oo : Option Nat) (hoo : slt cc jc (M.2.1 (p + 7) dp) oo) (hb : M.2.1 (p + 8) dp = xI b) (hv : vld cc jc b) (hj : oo ≠ none → jc < 59) (hk : k ≤ 36) (h6 : k ≠ 6) (h31 : k ≠ 31) (h32 : k ≠ 32) :
    ∃ M', Post (h + 1) f p pt (ct M k s e) = some (0, cf (ct M' k s e) (kUn k) (xI s)) ∧ fr (pN p) (qN' p) M M' := by
  obtain ⟨M1, z, j1, e1, e2, e3, e4, e5, e6, e7, e8, e9, _⟩ := endLine_spec (k := k) (s := s) (e := e) (cc0 := 0) (jc0 := 0) hp hI (by omega) (by omega) oo hoo hb hv (by unfold vld; omega) hj
  have d40 := hI.2.2.2.2.2.1
  rw [post_skip h f pt hp hI.2.2.1 d40 hk (Or.inl h6)]
  unfold restW
  rw [show (ct M k s e).2.2.1 3 1 = kRf k from rfl]
  simp only [kRf_kv hk, if_true, kRf_is (j := 32) hk (by omega) (by omega), kRf_is (j := 31) hk (by omega) (by omega)]
  rw [if_neg h32, if_neg h31]
  unfold F_CN_finish
  rw [e1, Option.bind_some]
  simp only [Option.bind_some]
  rw [ct_o _ _ _ _ _ hp, e2.2.2.1, if_neg (fun w => by rw [show (0 : Int32) = xI 0 from rfl, xI_eq (by omega) (by omega)] at w; omega)]
  exact ⟨M1, rfl, e9⟩
theorem ls_single {n D Ms q r dp w : Nat} (Ei : x_m → Option x_m) (hE : dp < 40 → EI n D Ms q r (dp + 1) w Ei) : ∀ (w' : Nat), w' ≤ w → ∀ (M R mr : x_m) (k s e e0 f g pt cc jc sn : Nat) (nt : Bool) (ob : Option Nat), mu n k e < w' → CSt M R n D Ms q r cc jc dp sn → RS R mr k s e → TF n e0 k s e → pt + mu n k e ≤ n + 1 → mu n k e < f → mu n k e < g → M.2.1 (q + 6 + 9) dp = bI nt → slt cc jc (M.2.1 (q + 6 + 8) dp) ob → jc + (if ob = none then 0 else 1) ≤ cc →
    outB n D Ms q r dp (42 - dp) 0 M R cc jc sn (mu n k e) ob (B_QG_readWhere_17 f (q + 6) (xI pt) (ct M k s e)) (B_MD_single_2 Ei g (bI nt) mr) (fun _ => True) ∨ outF q r M R (B_QG_readWhere_17 f (q + 6) (xI pt) (ct M k s e)) (B_MD_single_2 Ei g (bI nt) mr) := by
  intro w'
  induction w' with
  | zero => intro _ M R mr k s e e0 f g pt cc jc sn nt ob hw; exact absurd hw (Nat.not_lt_zero _)
  | succ w' ih =>
    intro hww M R mr k s e e0 f g pt cc jc sn nt ob hw hst hs ht hpt hf hg hna hob hjb
    cases f with
    | zero => omega
    | succ f =>
    cases g with
    | zero => omega
    | succ g =>
    have hst' := hst
    obtain ⟨z, hI, h13, h11, h24, hcm, hsn⟩ := hst
    have hq := z.2.2.2.2.2.1
    have hr := z.2.2.2.2.2.2
    have hn := z.1.1
    have hr1 := z.2.2.2.2.1
    have d40 := hI.2.2.2.2.2.1
    have c60 := hI.2.2.2.1
    have j59 := hI.2.2.2.2.1
    have ht' := ht
    obtain ⟨t1, t2, t3, t4, t5, t6, t7⟩ := ht
    by_cases hb : k = 1 ∨ k = 36
    · -- stuck: a comparison that fails
      obtain ⟨b1, b2, b3⟩ := RS_bad hs hb
      have hne : mr.1 387 5 ≠ 0 := by rw [b1]; exact kUn_ne k
      have e1 : B_MD_single_2 Ei (g + 1) (bI nt) mr = (F_MD_comparison mr).bind fun r130 => B_MD_single_133 Ei (bI nt) r130 := by
        rw [B_MD_single_2, if_neg hne]
        unfold B_MD_single_35 B_MD_single_129
        rw [if_neg hne]
      rw [e1]
      exact ls_scmp Ei hst' hs ht' (by omega) (by omega) hpt hf nt hna ob hob hjb
    · have g1 : k ≠ 1 := fun w => hb (Or.inl w)
      have g2 : k ≠ 36 := fun w => hb (Or.inr w)
      have eq := RS_good hs g1 g2
      subst eq
      have w16 : F_MD_isWord 16 (rt R k s e) = _ := F_MD_isWord_eq R (s := s) (e := e) t4 g1 g2 (w := 16) (by omega)
      have i40 : F_MD_isSign 40 (rt R k s e) = _ := F_MD_isSign_eq R (s := s) (e := e) t4 g1 g2 (j := 5) (by omega) (by omega)
      rw [B_MD_single_2, if_pos (show (rt R k s e).1 387 5 = 0 from Zl_5 z.1), w16, Option.bind_some]
      simp only [bI_0]
      by_cases k33 : k = 33
      · -- not
        subst k33
        rw [if_neg (by decide), where_not f (by omega), negateNext_spec (show q + 6 ≠ 3 by omega) hI nt hna, Option.bind_some]
        unfold B_QG_readWhere_152 B_MD_single_27
        have r2 : ∀ a i, (x_wA M (q + 6 + 9) dp (bI (!nt))).2.1 a i = if a = q + 6 + 9 ∧ i = dp then bI (!nt) else M.2.1 a i := fun a i => rfl
        have f1 : fr (pN (q + 6)) (qN' (q + 6)) M (x_wA M (q + 6 + 9) dp (bI (!nt))) := fr_wA _ _ _ _ (by unfold qN'; omega)
        have e5 : ∀ a, a ≠ q + 6 + 9 → (x_wA M (q + 6 + 9) dp (bI (!nt))).2.1 a = M.2.1 a := by
          intro a ha
          funext i
          rw [r2, if_neg (by omega)]
        have ag1 : agM M (x_wA M (q + 6 + 9) dp (bI (!nt))) (q + 6) cc jc := ⟨fun j _ => ⟨congrFun (e5 _ (by omega)) _, congrFun (e5 _ (by omega)) _, congrFun (e5 _ (by omega)) _⟩, fun x _ => congrFun (e5 _ (by omega)) _⟩
        have st1 := CSt_cls hst' f1 (CI_ag hI ag1 (fun _ => rfl)) h24
        have ln1 : lnK M (x_wA M (q + 6 + 9) dp (bI (!nt))) (q + 6) dp := fun i hi => ⟨congrFun (e5 _ (by omega)) _, congrFun (e5 _ (by omega)) _, by rw [r2, if_neg (by omega)]⟩
        have na1 : (x_wA M (q + 6 + 9) dp (bI (!nt))).2.1 (q + 6 + 9) dp = bI (!nt) := by rw [r2, if_pos ⟨rfl, rfl⟩]
        generalize x_wA M (q + 6 + 9) dp (bI (!nt)) = M1 at *
        obtain ⟨M2, R2, mr2, k2, s2, e2, i1, i2, i3, i4, i5, i6, i7, i8, i9⟩ := stepQ st1.1 (k := 33) (s := s) t2
        rw [i1, i2, Option.bind_some, xI_add1]
        have hflip : (if nt = false then (some mr2).bind (fun r29 => B_MD_single_2 Ei g 1 r29) else (some mr2).bind (fun r29 => B_MD_single_2 Ei g 0 r29)) = B_MD_single_2 Ei g (bI (!nt)) mr2 := by
          cases nt <;> rfl
        rw [hflip]
        have e2' := tok_2 i5
        have hlt := mu_step (n := n) (e := e) i7 (show 33 ≠ 0 by omega)
        have st2 := CSt_tok st1 i4 i5 i6
        have fM2 : fr (pW q) (qW q) M M2 := fr_trans (upNQ f1) (upw i5)
        have fR2 : fr (pWr r) (qWr r) R R2 := upwr i6
        rcases ih (by omega) M2 R2 mr2 k2 s2 e2 e f g (pt + 1) cc jc sn (!nt) ob (by omega) st2 i3 i7 (by omega) (by omega) (by omega) (by rw [e2']; exact na1) (by rw [e2', congrFun (e5 _ (by omega)) _]; exact hob) hjb with hB | hF
        · left
          refine outB_pre hB ?_ ?_ ?_ ?_ ?_ fM2 fR2 (by omega)
          · rw [e2']; exact congrFun (e5 _ (by omega)) _
          · exact lnK_trans ln1 (fun i _ => by rw [e2']; exact ⟨rfl, rfl, rfl⟩) (Nat.le_refl _)
          · exact agM_trans ag1 (tok_ag i5 _ cc jc) (Nat.le_refl _) (Nat.le_refl _)
          · intro a
            rw [tvL_2 e2', tvL_5 (fun x _ _ => e5 x (by omega)) a jc]
          · intro j _; exact congrFun (i6.2.1 _ id) j
        · right
          exact outF_pre hF fM2 fR2
      · rw [if_pos (decide_eq_false k33)]
        unfold B_MD_single_35
        rw [if_pos (show (rt R k s e).1 387 5 = 0 from Zl_5 z.1), i40, Option.bind_some]
        simp only [bI_0]
        by_cases k5 : k = 5
        · -- a bracket
          subst k5
          rw [if_neg (by decide), show (rt R 5 s e).1 387 24 = xI dp from h24, xI_add1, show (x_wS (rt R 5 s e) 387 24 (xI (dp + 1))).1 387 24 = xI (dp + 1) from rfl, rt_wS _ _ _ _ _ (by omega), where_open f (by omega)]
          simp only [show (40 < xI (dp + 1)) = (40 < dp + 1) from xI_lt (a := 40) (by omega) (by omega)]
          unfold B_MD_single_76
          by_cases dp40 : dp = 40
          · right
            rw [openBracket_full (show q + 6 ≠ 3 by omega) (by rw [hI.2.2.1, dp40]), Option.bind_some]
            simp only [if_true]
            rw [if_pos (show 40 < dp + 1 by omega), F_MD_want_0 (rt (x_wS R 387 24 (xI (dp + 1))) 5 s e) 7 _ (Zl_5 z.1) (by decide), Option.bind_some]
            simp only []
            rw [F_MD_read_f _ (show (0 : Int32) < 7 by decide), Option.bind_some, if_neg (show ¬ (rf (rt (x_wS R 387 24 (xI (dp + 1))) 5 s e) 7 ((rt (x_wS R 387 24 (xI (dp + 1))) 5 s e).1 387 8)).1 387 5 = 0 from (show ¬ (7 : Int32) = 0 by decide)), s101_f _ _ _ (show (0 : Int32) < 7 by decide)]
            refine ⟨cf (ct M 5 s e) 7 (xI s), _, rfl, rfl, Flt_24 (Flt_cr (ct M 5 s e) (rt (x_wS R 387 24 (xI (dp + 1))) 5 s e) 7 (xI s) (by decide)) _, upw (fr_trans (fr_ct _ _ _ _) (fr_cf _ _ _)), fr_trans (fr_24 r R _) (fr_trans (upwr (fr_trans (fr_rt _ _ _ _) (fr_rf _ _ _))) (fr_24 r _ _))⟩
          · have dlt : dp < 40 := by omega
            rw [openBracket_spec (show q + 6 ≠ 3 by omega) hI dlt, Option.bind_some]
            simp only [show ((1 : Int32) = 0) = False from by decide, if_false]
            rw [if_neg (show ¬ 40 < dp + 1 by omega), F_MD_want_1 (rt (x_wS R 387 24 (xI (dp + 1))) 5 s e) 7 _ (Zl_5 z.1), Option.bind_some]
            simp only []
            obtain ⟨o1, o2, o3, o4, o5, o6, o7⟩ := opM_spec hI dlt
            have st1 : CSt (opM M (q + 6) dp) (x_wS R 387 24 (xI (dp + 1))) n D Ms q r cc jc (dp + 1) sn := by
              have zz : ZQ (opM M (q + 6) dp) (x_wS R 387 24 (xI (dp + 1))) n D Ms q r := ZW_fr z (upNQ o4) (fr_24 r R _) (Fz_Sr (Fz_f (Zl_f z.1) o4 (by unfold pN; omega) (by unfold pN; omega)) (by omega))
              refine ⟨zz, o1, ?_, ?_, rfl, ?_, hsn⟩
              · show (if r = 387 ∧ 13 = 24 then _ else R.1 r 13) = _; rw [if_neg (by omega)]; exact h13
              · show (if r = 387 ∧ 11 = 24 then _ else R.1 r 11) = _; rw [if_neg (by omega)]; exact h11
              · exact Cmps_fr hq z.2.1.2.2.1 c60 hcm (fun i b _ => o4.1 _ _ (by unfold pN; omega)) (fun i _ => o4.2.1 _ (by unfold qN'; omega)) (fun d _ => o4.1 _ _ (by unfold pN; omega)) (fun a _ _ => rfl)
            have fM1 : fr (pW q) (qW q) M (opM M (q + 6) dp) := upNQ o4
            have fR1 : fr (pWr r) (qWr r) R (x_wS R 387 24 (xI (dp + 1))) := fr_24 r R _
            have sg1 : (x_wS R 387 24 (xI (dp + 1))).2.1 = R.2.1 := rfl
            have op2 : ∀ x, q + 6 + 2 ≤ x → x ≤ q + 6 + 5 → (opM M (q + 6) dp).2.1 x = M.2.1 x := by
              intro x hx1 hx2
              funext i
              rw [opM_2, if_neg (by omega), if_neg (by omega), if_neg (by omega)]
            generalize opM M (q + 6) dp = M1 at *
            generalize x_wS R 387 24 (xI (dp + 1)) = R1 at *
            unfold B_QG_readWhere_152
            obtain ⟨M2, R2, mr2, k2, s2, e2, i1, i2, i3, i4, i5, i6, i7, i8, i9⟩ := stepQ st1.1 (k := 5) (s := s) t2
            rw [i1, i2, Option.bind_some, Option.bind_some, xI_add1]
            have e2' := tok_2 i5
            have hlt := mu_step (n := n) (e := e) i7 (show 5 ≠ 0 by omega)
            have st2 := CSt_tok st1 i4 i5 i6
            have fM2 : fr (pW q) (qW q) M M2 := fr_trans fM1 (upw i5)
            have fR2 : fr (pWr r) (qWr r) R R2 := fr_trans fR1 (upwr i6)
            by_cases hb2 : k2 = 1 ∨ k2 = 36
            · right
              obtain ⟨b1, b2, b3⟩ := RS_bad i3 hb2
              have hp2 : 0 < mr2.1 387 5 := by rw [b1]; exact kUn_pos k2
              rw [if_neg (ne_pos hp2), s101_f _ _ _ hp2]
              cases f with
              | zero => have := mu_ge n k2 e2; omega
              | succ f =>
              rw [where_cmp f (by have := mu_ge n k2 e2; omega) i7.2.2.2.1 (by omega) (by omega)]
              rcases ls_cmp i4 i3 i7 st2.2.1.1 st2.2.2.1 c60 st2.2.2.2.1 (by omega) with ⟨M3, R3, k3, s3, e3, _, ak3, _⟩ | ⟨mc, mr', a1, a2, a3, a4, a5⟩
              · omega
              · rw [F_MD_comparison_f (ne_pos hp2) ((b3.2.2.1 _ _ (by omega)).trans i4.2.2.2.2.1) hr] at a2
                injection a2 with a2
                subst a2
                rw [a1, Option.bind_some]
                exact ⟨mc, _, rfl, rfl, Flt_24 a3 _, fr_trans fM2 a4, fr_trans fR2 (fr_trans a5 (fr_24 r _ _))⟩
            · have g1' : k2 ≠ 1 := fun w => hb2 (Or.inl w)
              have g2' : k2 ≠ 36 := fun w => hb2 (Or.inr w)
              have eq2 := RS_good i3 g1' g2'
              subst eq2
              rw [if_pos (show (rt R2 k2 s2 e2).1 387 5 = 0 from Zl_5 i4.1)]
              rcases hE dlt M2 R2 (rt R2 k2 s2 e2) k2 s2 e2 e f (pt + 1) cc jc sn (by omega) st2 i3 i7 (by omega) (by omega) (by rw [e2']; exact o5) (by rw [e2']; exact o6) (by rw [e2']; exact o7) (by omega) with hO | hF
              · obtain ⟨M3, R3, mr3, k3, s3, e3, e03, f3, pt3, h3, cc3, jc3, sn3, b3, oo, G, ⟨a1, a2, a3, a4, a5, a6, a7, a8, a9, a10⟩, ⟨b1, b2, b3', b4, b5, b6, b7, b8, b9, b10, b11, b12, b13⟩, ⟨c1, c2, c3, c4, c5, c6, c7⟩⟩ := hO
                rw [a1, a2, Option.bind_some]
                cases h3 with
                | zero => omega
                | succ h3 =>
                have I3 := b1.2.1
                have c603 := I3.2.2.2.1
                have oob : oo ≠ none → jc3 < 59 := by intro hne; rw [if_neg hne] at b12; omega
                have FM3 := fr_trans fM2 c6
                have FR3 := fr_trans fR2 c7
                by_cases k6 : k3 = 6
                · left
                  subst k6
                  have eq3 := RS_good a3 (by omega) (by omega)
                  subst eq3
                  have na3 : M3.2.1 (q + 6 + 9) dp = bI nt := by
                    rw [(b8 dp (by omega)).2.2, e2', (o3 dp (by omega)).2.2]; exact hna
                  have ob3 : slt cc jc (M3.2.1 (q + 6 + 8) dp) ob := by
                    rw [(b8 dp (by omega)).2.1, e2', (o3 dp (by omega)).2.1]; exact hob
                  have hj2 : ob ≠ none → jc3 + (if oo = none then 0 else 1) < 59 := by
                    intro hne
                    rw [if_neg hne] at hjb
                    by_cases ho : oo = none
                    · rw [if_pos ho] at b12 ⊢; omega
                    · rw [if_neg ho] at b12 ⊢; omega
                  obtain ⟨M4, b4', jc4, d1, d2, d3, d4, d5, d6, d7, d8, d9, d10, d11, d12, d13, d14⟩ := closeBracket_spec (k := 6) (s := s3) (e := e3) (show q + 6 ≠ 3 by omega) I3 (by omega) b11 b10 oo b3' b5 b6 b7 oob nt na3 ob ob3 hj2
                  rw [post_close h3 f3 (xI pt3) (show q + 6 ≠ 3 by omega) I3.2.2.1 (by omega), d1, Option.bind_some]
                  unfold B_MD_single_101
                  have i41 : F_MD_isSign 41 (rt R3 6 s3 e3) = _ := F_MD_isSign_eq R3 (s := s3) (e := e3) (show 6 ≤ 36 by omega) (by omega) (by omega) (j := 6) (by omega) (by omega)
                  rw [i41, Option.bind_some, show bI (decide (6 = 6)) = 1 from rfl]
                  simp only [F_MD_must_1 (rt R3 6 s3 e3) (Zl_5 b1.1.1), Option.bind_some]
                  rw [show (rt R3 6 s3 e3).1 387 24 = xI (dp + 1) from b1.2.2.2.2.1, show xI (dp + 1) - 1 = xI dp from by rw [show (1 : Int32) = xI 1 from rfl, xI_sub (by omega)]; rfl, rt_wS _ _ _ _ _ (by omega)]
                  have st4 : CSt M4 (x_wS R3 387 24 (xI dp)) n D Ms q r cc3 jc4 dp sn3 := by
                    have b1' := b1
                    obtain ⟨y1, y2, y3, y4, y5, y6, y7⟩ := b1
                    have zz : ZQ M4 (x_wS R3 387 24 (xI dp)) n D Ms q r := ZW_fr y1 (upNQ d13) (fr_24 r R3 _) (Fz_Sr (Fz_f (Zl_f y1.1) d13 (by unfold pN; omega) (by unfold pN; omega)) (by omega))
                    refine ⟨zz, d2, ?_, ?_, rfl, ?_, y7⟩
                    · show (if r = 387 ∧ 13 = 24 then _ else R3.1 r 13) = _; rw [if_neg (by omega)]; exact y3
                    · show (if r = 387 ∧ 11 = 24 then _ else R3.1 r 11) = _; rw [if_neg (by omega)]; exact y4
                    · exact Cmps_fr hq z.2.1.2.2.1 c603 y6 (fun i b _ => d13.1 _ _ (by unfold pN; omega)) (fun i _ => d13.2.1 _ (by unfold qN'; omega)) (fun d _ => d13.1 _ _ (by unfold pN; omega)) (fun a _ _ => rfl)
                  have sg3 : (x_wS R3 387 24 (xI dp)).2.1 = R3.2.1 := rfl
                  have fR4 : fr (pWr r) (qWr r) R (x_wS R3 387 24 (xI dp)) := fr_trans FR3 (fr_24 r R3 _)
                  generalize x_wS R3 387 24 (xI dp) = R4 at *
                  obtain ⟨M5, R5, mr5, k5, s5, e5, v1, v2, v3, v4, v5, v6, v7, v8, v9⟩ := stepQ st4.1 (k := 6) (s := s3) a4.2.1
                  have hlt5 := mu_step (n := n) (e := e3) v7 (show 6 ≠ 0 by omega)
                  have e5' := tok_2 v5
                  have e5r : R5.2.1 = R4.2.1 := by funext x; exact v6.2.1 x id
                  have st5 := CSt_tok st4 v4 v5 v6
                  rw [v1, v2, Option.bind_some, Option.bind_some]
                  have hP : (B_QG_readClosings_12 (q + 6) h3 (xI dp) (ct M5 k5 s5 e5)).bind (restW f3 (q + 6) (xI pt3)) = Post h3 f3 (q + 6) (xI pt3) (ct M5 k5 s5 e5) := by
                    unfold Post
                    rw [ct_o _ _ _ _ _ (show q + 6 ≠ 3 by omega), st5.2.1.2.2.1]
                  rw [hP]
                  have tob : ∀ a, ob.map (tvL M3 (q + 6) a jc) = ob.map (tvL M (q + 6) a jc) := by
                    intro a
                    cases ob with
                    | none => rfl
                    | some x =>
                      have : tvL M3 (q + 6) a jc x = tvL M2 (q + 6) a jc x := tv_congr c60 j59 st2.2.1.2.2.2.2.2.2.1 b9 a jc (Nat.le_refl _) x hob.2
                      show some (tvL M3 (q + 6) a jc x) = some (tvL M (q + 6) a jc x)
                      rw [this, tvL_2 e2', tvL_5 op2 a jc]
                  have agAll : agM M M5 (q + 6) cc jc := agM_trans o2 (agM_trans (tok_ag i5 _ cc jc) (agM_trans b9 (agM_trans d9 (tok_ag v5 _ cc jc) (Nat.le_refl _) (Nat.le_refl _)) (Nat.le_refl _) (Nat.le_refl _)) (Nat.le_refl _) (Nat.le_refl _)) (Nat.le_refl _) (Nat.le_refl _)
                  have lnAll : lnK M M5 (q + 6) dp := by
                    intro i hi
                    obtain ⟨x1, x2, x3⟩ := d8 i hi
                    obtain ⟨y1, y2, y3⟩ := b8 i (by omega)
                    obtain ⟨z1, z2, z3⟩ := o3 i (by omega)
                    rw [e5']
                    exact ⟨by rw [x1, y1, e2', z1], by rw [x2, y2, e2', z2], by rw [x3, y3, e2', z3]⟩
                  have seg3 := c4 (by omega) (by omega)
                  have c3' : sn3 + 1 ≤ sn + (42 - dp) * (cc3 - cc) := by
                    rw [show 43 - (dp + 1) = 42 - dp by omega] at c3; exact c3
                  have wle : (42 - dp) * (cc3 - cc) ≤ 42 * (cc3 - cc) := Nat.mul_le_mul_right _ (by omega)
                  have sn43 : sn3 + 1 ≤ 43 * cc3 := by omega
                  have core : ∀ (R6 mr6 : x_m) (sn6 : Nat), sn3 ≤ sn6 → sn6 ≤ sn3 + 1 → RS R6 mr6 k5 s5 e5 → CSt M5 R6 n D Ms q r cc3 jc4 dp sn6 → fr (pWr r) (qWr r) R5 R6 → (∀ j, j < sn3 → R6.2.1 (r + 8) j = R5.2.1 (r + 8) j) → (k5 ≠ 1 → k5 ≠ 36 → Seg (R6.2.1 (r + 8)) sn sn6 cc cc3 (fun a => G a != nt)) →
                      outB n D Ms q r dp (42 - dp) 0 M R cc jc sn (mu n 5 e) ob (Post h3 f3 (q + 6) (xI pt3) (ct M5 k5 s5 e5)) (some mr6) (fun _ => True) := by
                    intro R6 mr6 sn6 w1 w2 rs6 st6 f6 sg6 sg
                    refine ⟨M5, R6, mr6, k5, s5, e5, e3, f3, pt3, h3, cc3, jc4, sn6, b4', fun a => G a != nt, ⟨rfl, rfl, rs6, v7, by omega, by omega, by omega, by omega, trivial⟩, ⟨st6, b2, ?_, ?_, ?_, d4, d5, lnAll, agAll, ?_, ?_, ?_, ?_, ?_⟩, ⟨?_, by omega, ?_, sg, ?_, ?_, ?_⟩⟩
                    · rw [e5', d6, (b8 dp (by omega)).1, e2', (o3 dp (by omega)).1]
                    · rw [e5']; exact d7
                    · rw [e5']; exact d3
                    · exact clo_ag d10 (tok_ag v5 _ cc jc) (Nat.le_refl _)
                    · rw [d11]; omega
                    · rw [d11]
                      by_cases x1 : oo = none
                      · rw [if_pos x1] at b12 ⊢
                        by_cases x2 : ob = none
                        · rw [if_pos x2, if_pos x2]; omega
                        · rw [if_neg x2, if_neg x2]; omega
                      · rw [if_neg x1] at b12 ⊢
                        by_cases x2 : ob = none
                        · rw [if_pos x2, if_pos x2]; omega
                        · rw [if_neg x2, if_neg x2]; omega
                    · intro hj
                      rw [d11] at hj
                      by_cases x2 : ob = none
                      · by_cases x1 : oo = none
                        · rw [d14.1 x2, if_pos x1]
                          rw [if_pos x1, if_pos x2] at hj
                          exact (b13 x1).1 (by omega)
                        · rw [if_neg x1] at hj; omega
                      · rw [if_neg x2] at hj; omega
                    · intro hj
                      by_cases x2 : ob = none
                      · by_cases x1 : oo = none
                        · rw [d14.1 x2, if_pos x1, d11, if_pos x1, if_pos x2]
                          rw [d11, if_pos x1, if_pos x2] at hj
                          exact (b13 x1).2 (by omega)
                        · rw [d14.1 x2, if_neg x1, d11, if_neg x1, if_pos x2]; omega
                      · rw [d14.2 x2, d11, if_neg x2]; omega
                    · intro j hj
                      rw [sg6 j (by omega), e5r, sg3, c1 j hj]
                      show R2.2.1 (r + 8) j = _
                      rw [congrFun (i6.2.1 _ id) j, sg1]
                    · omega
                    · intro a
                      rw [tvL_2 e5', d12 a, tob a, c5 a]
                    · exact fr_trans FM3 (fr_trans (upNQ d13) (upw v5))
                    · exact fr_trans fR4 (fr_trans (upwr v6) f6)
                  by_cases hb5 : k5 = 1 ∨ k5 = 36
                  · obtain ⟨y1, y2, y3⟩ := RS_bad v3 hb5
                    rw [s133_f Ei _ mr5 (by rw [y1]; exact kUn_ne k5)]
                    exact core R5 mr5 sn3 (Nat.le_refl _) (by omega) v3 st5 (fr_refl _ _ _) (fun _ _ => rfl) (fun u v => absurd hb5 (by omega))
                  · have g15 : k5 ≠ 1 := fun w => hb5 (Or.inl w)
                    have g25 : k5 ≠ 36 := fun w => hb5 (Or.inr w)
                    have eq5 := RS_good v3 g15 g25
                    subst eq5
                    rw [s133_ok Ei nt st5 sn43 c603]
                    have seg5 : Seg (R5.2.1 (r + 8)) sn sn3 cc cc3 G := Seg_congr seg3 (fun j _ _ => by rw [e5r, sg3])
                    cases nt
                    · refine core R5 _ sn3 (Nat.le_refl _) (by omega) (Or.inl ⟨g15, g25, rfl⟩) st5 (fr_refl _ _ _) (fun _ _ => rfl) (fun _ _ => ?_)
                      refine ⟨seg5.1, seg5.2.1, seg5.2.2.1, fun a st hs => ?_⟩
                      rw [seg5.2.2.2 a st hs]
                      show some (G a :: st) = some ((G a != false) :: st)
                      cases G a <;> rfl
                    · have r2 : ∀ x y, (sayS R5 r sn3 (-1)).2.1 x y = if x = r + 8 ∧ y = sn3 then -1 else R5.2.1 x y := fun x y => rfl
                      have sg2 : ∀ j, j < sn3 → (sayS R5 r sn3 (-1)).2.1 (r + 8) j = R5.2.1 (r + 8) j := by
                        intro j hj
                        rw [r2, if_neg (by omega)]
                      refine core (sayS R5 r sn3 (-1)) _ (sn3 + 1) (by omega) (by omega) (Or.inl ⟨g15, g25, rfl⟩) (CSt_say (-1) st5 sn43) (fr_say _ _ _ _) sg2 (fun _ _ => ?_)
                      have s3' := Seg_not (Seg_congr (g' := (sayS R5 r sn3 (-1)).2.1 (r + 8)) seg5 (fun j _ hj => sg2 j hj)) (by rw [r2, if_pos ⟨rfl, rfl⟩])
                      refine ⟨s3'.1, s3'.2.1, s3'.2.2.1, fun a st hs => ?_⟩
                      rw [s3'.2.2.2 a st hs]
                      show some ((!G a) :: st) = some ((G a != true) :: st)
                      cases G a <;> rfl
                · right
                  obtain ⟨M4, d1, d2⟩ := post_end (s := s3) (e := e3) (h := h3) (f := f3) (xI pt3) (show q + 6 ≠ 3 by omega) I3 (by omega) oo b3' b5 b6 oob a4.2.2.2.1 k6 a9 a10
                  rw [d1]
                  have fcl : fr (pW q) (qW q) M (cf (ct M4 k3 s3 e3) (kUn k3) (xI s3)) := fr_trans FM3 (fr_trans (upNQ d2) (upw (fr_trans (fr_ct _ _ _ _) (fr_cf _ _ _))))
                  by_cases hb3 : k3 = 1 ∨ k3 = 36
                  · obtain ⟨y1, y2, y3⟩ := RS_bad a3 hb3
                    have hp3 : 0 < mr3.1 387 5 := by rw [y1]; exact kUn_pos k3
                    rw [s101_f _ _ _ hp3]
                    exact ⟨_, _, rfl, rfl, Flt_24 ⟨by rw [y1]; rfl, by rw [y2]; rfl, hp3⟩ _, fcl, fr_trans FR3 (fr_trans (upwr y3) (fr_24 r _ _))⟩
                  · have g13 : k3 ≠ 1 := fun w => hb3 (Or.inl w)
                    have g23 : k3 ≠ 36 := fun w => hb3 (Or.inr w)
                    have eq3 := RS_good a3 g13 g23
                    subst eq3
                    unfold B_MD_single_101
                    have i41 : F_MD_isSign 41 (rt R3 k3 s3 e3) = _ := F_MD_isSign_eq R3 (s := s3) (e := e3) a4.2.2.2.1 g13 g23 (j := 6) (by omega) (by omega)
                    rw [i41, Option.bind_some, decide_eq_false k6, show bI false = 0 from rfl]
                    simp only [F_MD_must_0 R3 (s := s3) (e := e3) a4.2.2.2.1 g13 g23 (Zl_5 b1.1.1), Option.bind_some]
                    have hpk := kUn_pos k3
                    rw [F_MD_read_f _ (show 0 < (x_wS (rf (rt R3 k3 s3 e3) (kUn k3) (xI s3)) 387 24 ((rf (rt R3 k3 s3 e3) (kUn k3) (xI s3)).1 387 24 - 1)).1 387 5 from hpk), Option.bind_some, s133_f _ _ _ (show (x_wS (rf (rt R3 k3 s3 e3) (kUn k3) (xI s3)) 387 24 ((rf (rt R3 k3 s3 e3) (kUn k3) (xI s3)).1 387 24 - 1)).1 387 5 ≠ 0 from ne_pos hpk)]
                    exact ⟨_, _, rfl, rfl, Flt_24 (Flt_cr _ _ _ _ hpk) _, fcl, fr_trans FR3 (fr_trans (upwr (fr_trans (fr_rt _ _ _ _) (fr_rf _ _ _))) (fr_24 r _ _))⟩
              · right
                obtain ⟨mc, mr', a1, a2, a3, a4, a5⟩ := hF
                rw [a1, a2, Option.bind_some, s101_f _ _ _ a3.2.2]
                exact ⟨mc, _, rfl, rfl, Flt_24 a3 _, fr_trans fM2 a4, fr_trans fR2 (fr_trans a5 (fr_24 r _ _))⟩
        · rw [if_pos (decide_eq_false k5)]
          unfold B_MD_single_129
          exact ls_scmp Ei hst' hs ht' k33 k5 hpt hf nt hna ob hob hjb
