/-! both(), either() -/
theorem both4_end (Ei : x_m → Option x_m) (g : Nat) {R mr : x_m} {k s e : Nat} (h : RS R mr k s e) (h5 : R.1 387 5 = 0) (hk : k ≤ 36) (h31 : k ≠ 31) : B_MD_both_4 Ei (g + 1) mr = some mr := by
  by_cases hb : k = 1 ∨ k = 36
  · obtain ⟨b1, b2, b3⟩ := RS_bad h hb
    rw [B_MD_both_4, if_neg (by rw [b1]; exact kUn_ne k)]
    rfl
  · have g1 : k ≠ 1 := fun w => hb (Or.inl w)
    have g2 : k ≠ 36 := fun w => hb (Or.inr w)
    have eq := RS_good h g1 g2
    subst eq
    have w14 : F_MD_isWord 14 (rt R k s e) = _ := F_MD_isWord_eq R (s := s) (e := e) hk g1 g2 (w := 14) (by omega)
    rw [B_MD_both_4, if_pos (show (rt R k s e).1 387 5 = 0 from h5), w14, Option.bind_some, decide_eq_false (show ¬ k = 17 + 14 by omega)]
    rfl
theorem either4_end (Ei : x_m → Option x_m) (g : Nat) {R mr : x_m} {k s e : Nat} (h : RS R mr k s e) (h5 : R.1 387 5 = 0) (hk : k ≤ 36) (h32 : k ≠ 32) : B_MD_either_4 Ei (g + 1) mr = some mr := by
  by_cases hb : k = 1 ∨ k = 36
  · obtain ⟨b1, b2, b3⟩ := RS_bad h hb
    rw [B_MD_either_4, if_neg (by rw [b1]; exact kUn_ne k)]
    rfl
  · have g1 : k ≠ 1 := fun w => hb (Or.inl w)
    have g2 : k ≠ 36 := fun w => hb (Or.inr w)
    have eq := RS_good h g1 g2
    subst eq
    have w15 : F_MD_isWord 15 (rt R k s e) = _ := F_MD_isWord_eq R (s := s) (e := e) hk g1 g2 (w := 15) (by omega)
    rw [B_MD_either_4, if_pos (show (rt R k s e).1 387 5 = 0 from h5), w15, Option.bind_some, decide_eq_false (show ¬ k = 17 + 15 by omega)]
    rfl
/-- a sign behind a part, if no fault is told -/
theorem say_RS {M R mr : x_m} {n D Ms q r cc jc dp sn k s e : Nat} (a : Int32) (hst : CSt M R n D Ms q r cc jc dp sn) (hs : RS R mr k s e) (hb : sn + 1 ≤ 43 * cc) :
    ∃ R' mr' sn', F_MD_say a mr = some mr' ∧ RS R' mr' k s e ∧ CSt M R' n D Ms q r cc jc dp sn' ∧ sn ≤ sn' ∧ sn' ≤ sn + 1 ∧ (∀ j, j < sn → R'.2.1 (r + 8) j = R.2.1 (r + 8) j) ∧ fr (pWr r) (qWr r) R R' ∧ (k ≠ 1 → k ≠ 36 → sn' = sn + 1 ∧ R'.2.1 (r + 8) sn = a) := by
  have hr := hst.1.2.2.2.2.2.2
  have c60 := hst.2.1.2.2.2.1
  by_cases hbk : k = 1 ∨ k = 36
  · obtain ⟨b1, b2, b3⟩ := RS_bad hs hbk
    exact ⟨R, mr, sn, F_MD_say_f a mr (by rw [b1]; exact kUn_ne k), hs, hst, Nat.le_refl _, by omega, fun _ _ => rfl, fr_refl _ _ _, fun u v => by omega⟩
  · have g1 : k ≠ 1 := fun w => hbk (Or.inl w)
    have g2 : k ≠ 36 := fun w => hbk (Or.inr w)
    have eq := RS_good hs g1 g2
    subst eq
    have r2 : ∀ x y, (sayS R r sn a).2.1 x y = if x = r + 8 ∧ y = sn then a else R.2.1 x y := fun x y => rfl
    refine ⟨sayS R r sn a, rt (sayS R r sn a) k s e, sn + 1, ?_, Or.inl ⟨g1, g2, rfl⟩, CSt_say a hst hb, by omega, Nat.le_refl _, fun j hj => by rw [r2, if_neg (by omega)], fr_say _ _ _ _, fun _ _ => ⟨rfl, by rw [r2, if_pos ⟨rfl, rfl⟩]⟩⟩
    rw [F_MD_say_eq (m := rt R k s e) a (Zl_5 hst.1.1) hst.1.2.2.2.2.1 hr (show (if r = 387 then _ else R.1 r 11) = xI sn by rw [if_neg (by omega)]; exact hst.2.2.2.1) (by omega), sayS_rt _ _ _ _ hr]
theorem mul_split (W a b c : Nat) (h1 : a ≤ b) (h2 : b ≤ c) : W * (c - a) = W * (b - a) + W * (c - b) := by
  rw [← Nat.mul_add]; congr 1; omega
theorem ls_bothL {n D Ms q r dp w : Nat} (Ei : x_m → Option x_m) (hE : dp < 40 → EI n D Ms q r (dp + 1) w Ei) (hdp : dp ≤ 40) {M0 R0 : x_m} {cc0 jc0 sn0 : Nat} (h00 : jc0 ≤ cc0) : ∀ (v : Nat), v ≤ w → ∀ (u g : Nat) (C : Option (Int32 × x_m)) (S : Option x_m), v < g → v ≤ u → v ≤ x_fu → outB n D Ms q r dp (43 - dp) 1 M0 R0 cc0 jc0 sn0 v none C S (fun _ => True) →
    outB n D Ms q r dp (43 - dp) 1 M0 R0 cc0 jc0 sn0 u none C (S.bind (B_MD_both_4 Ei g)) (fun k' => k' ≠ 31) ∨ outF q r M0 R0 C (S.bind (B_MD_both_4 Ei g)) := by
  intro v
  induction v using Nat.strongRecOn with
  | _ v ih =>
    intro hvw u g C S hg hu hx hB
    obtain ⟨M, R, mr, k, s, e, e0, f, pt, h, cc, jc, sn, b, G, ⟨a1, a2, a3, a4, a5, a6, a7, a8, a9⟩, ⟨b1, b2, b3, b4, b5, b6, b7, b8, b9, b10, b11, b12, b13⟩, ⟨c1, c2, c3, c4, c5, c6, c7⟩⟩ := hB
    cases g with
    | zero => omega
    | succ g =>
    rw [a2, Option.bind_some]
    have hz := b1.1
    have hq := hz.2.2.2.2.2.1
    have hr := hz.2.2.2.2.2.2
    have c60 := b1.2.1.2.2.2.1
    have j59 := b1.2.1.2.2.2.2.1
    have hn := hz.1.1
    have mg := mu_ge n k e
    by_cases k31 : k = 31
    · subst k31
      have eq := RS_good a3 (by omega) (by omega)
      subst eq
      cases h with
      | zero => omega
      | succ h =>
      have w14 : F_MD_isWord 14 (rt R 31 s e) = _ := F_MD_isWord_eq R (s := s) (e := e) (show 31 ≤ 36 by omega) (by omega) (by omega) (w := 14) (by omega)
      rw [B_MD_both_4, if_pos (show (rt R 31 s e).1 387 5 = 0 from Zl_5 hz.1), w14, Option.bind_some, show bI (decide (31 = 17 + 14)) = 1 from rfl]
      simp only [show ((1 : Int32) = 0) = False from by decide, if_false]
      rw [a1, post_skip h f (xI pt) (show q + 6 ≠ 3 by omega) b1.2.1.2.2.1 hdp (by omega) (Or.inl (by omega))]
      have hW : restW f (q + 6) (xI pt) (ct M 31 s e) = (F_LX_advance (ct M 31 s e)).bind fun r156 => B_QG_readWhere_17 f (q + 6) (xI pt + 1) r156 := by
        unfold restW B_QG_readWhere_152
        rw [show (ct M 31 s e).2.2.1 3 1 = x_N + 31 from rfl, if_pos (by unfold x_kv; simp), if_neg (by unfold x_N; omega), if_pos (by unfold x_kv; simp), if_pos rfl]
      rw [hW]
      obtain ⟨M2, R2, mr2, k2, s2, e2, i1, i2, i3, i4, i5, i6, i7, i8, i9⟩ := stepQ hz (k := 31) (s := s) a4.2.1
      rw [i1, i2, Option.bind_some, Option.bind_some, xI_add1]
      have hlt := mu_step (n := n) (e := e) i7 (show 31 ≠ 0 by omega)
      have st2 := CSt_tok b1 i4 i5 i6
      have e2' := tok_2 i5
      have e2r : R2.2.1 = R.2.1 := by funext x; exact i6.2.1 x id
      have b12' : cc + jc0 = cc0 + jc + 1 := b12
      have hsing := ls_single Ei hE w (Nat.le_refl w) M2 R2 mr2 k2 s2 e2 e f x_fu (pt + 1) cc jc sn false (some b) (by omega) st2 i3 i7 (by omega) (by omega) (by omega) (by rw [e2']; exact b4) ⟨by rw [e2']; exact b5, b6⟩ (by rw [if_neg (by simp)]; omega)
      rw [show bI false = 0 from rfl] at hsing
      have fM2 := fr_trans c6 (upw i5)
      have fR2 := fr_trans c7 (upwr i6)
      have hcomp : ((F_MD_single Ei mr2).bind fun r25 => (F_MD_say (-2) r25).bind fun r31 => B_MD_both_4 Ei g r31) = ((F_MD_single Ei mr2).bind fun r25 => F_MD_say (-2) r25).bind (B_MD_both_4 Ei g) := by
        cases F_MD_single Ei mr2 <;> rfl
      rw [hcomp]
      rcases hsing with hB2 | hF2
      · obtain ⟨M3, R3, mr3, k3, s3, e3, e03, f3, pt3, h3, cc3, jc3, sn3, b3', G3, ⟨p1, p2, p3, p4, p5, p6, p7, p8, p9⟩, ⟨q1, q2, q3, q4, q5, q6, q7, q8, q9, q10, q11, q12, q13⟩, ⟨r1, r2, r3, r4, r5, r6, r7⟩⟩ := hB2
        have wle : (42 - dp) * (cc3 - cc) ≤ 42 * (cc3 - cc) := Nat.mul_le_mul_right _ (by omega)
        have c603 := q1.2.1.2.2.2.1
        have snb : sn3 + 1 ≤ 43 * cc3 := by have := b1.2.2.2.2.2.2; omega
        obtain ⟨R4, mr4, sn4, y1, y2, y3, y4, y5, y6, y7, y8⟩ := say_RS (-2) q1 p3 snb
        have hS : (F_MD_single Ei mr2).bind (fun r25 => F_MD_say (-2) r25) = some mr4 := by
          show (B_MD_single_2 Ei x_fu 0 mr2).bind _ = _
          rw [p2, Option.bind_some]; exact y1
        refine ih (mu n k2 e2) (by omega) (by omega) u g _ _ (by omega) (by omega) (by omega) ?_
        have e12 : cc3 + jc = cc + jc3 + 0 := q12
        have ms := mul_split (43 - dp) cc0 cc cc3 (by omega) (by omega)
        have mb : (43 - dp) * (cc3 - cc) = (42 - dp) * (cc3 - cc) + (cc3 - cc) := by
          rw [show 43 - dp = (42 - dp) + 1 by omega, Nat.add_mul, Nat.one_mul]
        refine ⟨M3, R4, mr4, k3, s3, e3, e03, f3, pt3, h3, cc3, jc3, sn4, b3', fun a => G a && G3 a, ⟨p1, hS, y2, p4, p5, p6, p7, p8, trivial⟩, ⟨y3, by omega, ?_, q4, q5, q6, ?_, ?_, ?_, ?_, by omega, ?_, fun hj => by omega, fun _ => q13.2 (by omega)⟩, ⟨?_, by omega, ?_, ?_, ?_, fr_trans fM2 r6, fr_trans fR2 (fr_trans r7 y7)⟩⟩
        · rw [q3, e2']; exact b3
        · intro hv
          exact q7 (vld_mono hv (by omega) b11)
        · exact lnK_trans b8 (lnK_trans (fun i _ => by rw [e2']; exact ⟨rfl, rfl, rfl⟩ : lnK M M2 (q + 6) dp) q8 (Nat.le_refl _)) (Nat.le_refl _)
        · exact agM_trans b9 (agM_trans (tok_ag i5 (q + 6) cc jc) q9 (Nat.le_refl _) (Nat.le_refl _)) (by omega) b11
        · exact clo_ag (clo_ag b10 (tok_ag i5 (q + 6) cc jc) b11) q9 b11
        · show cc3 + jc0 = cc0 + jc3 + 1; omega
        · intro j hj
          rw [y6 j (by omega), r1 j (by omega), e2r, c1 j hj]
        · omega
        · intro x1 x2
          obtain ⟨z1, z2⟩ := y8 x1 x2
          have sA : Seg (R4.2.1 (r + 8)) sn0 sn cc0 cc G := Seg_congr (c4 (by omega) (by omega)) (fun j _ hj => by rw [y6 j (by omega), r1 j hj, e2r])
          have sB : Seg (R4.2.1 (r + 8)) sn sn3 cc cc3 G3 := Seg_congr (r4 x1 x2) (fun j _ hj => y6 j hj)
          rw [z1]
          exact Seg_and sA sB z2
        · intro a
          rw [r5 a]
          show (tvL M2 (q + 6) a jc b && G3 a) = (G a && G3 a)
          rw [tvL_2 e2', c5 a]
          rfl
      · right
        obtain ⟨mc, mr', x1, x2, x3, x4, x5⟩ := hF2
        have hS : (F_MD_single Ei mr2).bind (fun r25 => F_MD_say (-2) r25) = some mr' := by
          show (B_MD_single_2 Ei x_fu 0 mr2).bind _ = _
          rw [x2, Option.bind_some, F_MD_say_f _ _ (ne_pos x3.2.2)]
        rw [x1, hS, Option.bind_some]
        refine ⟨mc, mr', rfl, ?_, x3, fr_trans fM2 x4, fr_trans fR2 x5⟩
        cases g with
        | zero => have := mu_ge n k2 e2; omega
        | succ g =>
        rw [B_MD_both_4, if_neg (ne_pos x3.2.2)]
        rfl
    · left
      rw [both4_end Ei g a3 (Zl_5 hz.1) a4.2.2.2.1 k31]
      exact ⟨M, R, mr, k, s, e, e0, f, pt, h, cc, jc, sn, b, G, ⟨a1, rfl, a3, a4, by omega, a6, a7, a8, k31⟩, ⟨b1, b2, b3, b4, b5, b6, b7, b8, b9, b10, b11, b12, b13⟩, ⟨c1, c2, c3, c4, c5, c6, c7⟩⟩
theorem ls_both {n D Ms q r dp w : Nat} (Ei : x_m → Option x_m) (hE : dp < 40 → EI n D Ms q r (dp + 1) w Ei) (M R mr : x_m) (k s e e0 f pt cc jc sn : Nat) (hw : mu n k e < w) (hst : CSt M R n D Ms q r cc jc dp sn) (hs : RS R mr k s e) (ht : TF n e0 k s e) (hpt : pt + mu n k e ≤ n + 1) (hf : mu n k e < f) (hna : M.2.1 (q + 6 + 9) dp = 0) (hba : M.2.1 (q + 6 + 8) dp = -1) (hjc : jc ≤ cc) :
    outB n D Ms q r dp (43 - dp) 1 M R cc jc sn (mu n k e) none (B_QG_readWhere_17 f (q + 6) (xI pt) (ct M k s e)) (F_MD_both Ei mr) (fun k' => k' ≠ 31) ∨ outF q r M R (B_QG_readWhere_17 f (q + 6) (xI pt) (ct M k s e)) (F_MD_both Ei mr) := by
  have hn := hst.1.1.1
  have mg := mu_ge n k e
  have hdp := hst.2.1.2.2.2.2.2.1
  have hsing := ls_single Ei hE w (Nat.le_refl w) M R mr k s e e0 f x_fu pt cc jc sn false none hw hst hs ht hpt hf (by unfold x_fu; omega) hna hba (by rw [if_pos rfl]; omega)
  rw [show bI false = 0 from rfl] at hsing
  unfold F_MD_both F_MD_single
  rcases hsing with hB | hF
  · refine ls_bothL Ei hE hdp hjc (mu n k e) (by omega) (mu n k e) x_fu _ _ (by unfold x_fu; omega) (Nat.le_refl _) (by unfold x_fu; omega) ?_
    obtain ⟨M3, R3, mr3, k3, s3, e3, e03, f3, pt3, h3, cc3, jc3, sn3, b3', G3, pp, qq, ⟨r1, r2, r3, r4, r5, r6, r7⟩⟩ := hB
    have mb : (43 - dp) * (cc3 - cc) = (42 - dp) * (cc3 - cc) + (cc3 - cc) := by
      rw [show 43 - dp = (42 - dp) + 1 by omega, Nat.add_mul, Nat.one_mul]
    have := qq.2.1
    exact ⟨M3, R3, mr3, k3, s3, e3, e03, f3, pt3, h3, cc3, jc3, sn3, b3', G3, pp, qq, ⟨r1, r2, by omega, r4, r5, r6, r7⟩⟩
  · right
    obtain ⟨mc, mr', x1, x2, x3, x4, x5⟩ := hF
    rw [x1, x2, Option.bind_some]
    refine ⟨mc, mr', rfl, ?_, x3, x4, x5⟩
    rw [show x_fu = 199999 + 1 from rfl, B_MD_both_4, if_neg (ne_pos x3.2.2)]
    rfl
