/-! either() -/
def outG (n D Ms q r dp : Nat) (M R : x_m) (cc jc sn u : Nat) (C : Option (Int32 × x_m)) (S : Option x_m) (bad : Nat → Prop) : Prop := ∃ (M' R' mr' : x_m) (k' s' e' e0' f' pt' h' cc' jc' sn' b' : Nat) (oo : Option Nat) (g : (Nat → Bool) → Bool),
  (C = Post h' f' (q + 6) (xI pt') (ct M' k' s' e') ∧ S = some mr' ∧ RS R' mr' k' s' e' ∧ TF n e0' k' s' e' ∧ mu n k' e' < u ∧ pt' + mu n k' e' ≤ n + 1 ∧ mu n k' e' < f' ∧ dp < h' ∧ k' ≠ 31 ∧ bad k') ∧
  (CSt M' R' n D Ms q r cc' jc' dp sn' ∧ cc < cc' ∧ slt cc' jc' (M'.2.1 (q + 6 + 7) dp) oo ∧ M'.2.1 (q + 6 + 9) dp = 0 ∧ M'.2.1 (q + 6 + 8) dp = xI b' ∧ vld cc' jc' b' ∧ ¬ vld cc jc b' ∧ lnK M M' (q + 6) dp ∧ agM M M' (q + 6) cc jc ∧ clo M' (q + 6) cc jc ∧ jc ≤ jc' ∧ cc' + jc = cc + jc' + (if oo = none then 1 else 2) ∧ (oo = none → (jc' = jc → b' = cc) ∧ (jc < jc' → b' = 60 + jc' - 1))) ∧
  ((∀ j, j < sn → R'.2.1 (r + 8) j = R.2.1 (r + 8) j) ∧ sn ≤ sn' ∧ sn' + 1 ≤ sn + (43 - dp) * (cc' - cc) ∧ (k' ≠ 1 → k' ≠ 36 → Seg (R'.2.1 (r + 8)) sn sn' cc cc' g) ∧ (∀ a, orV (oo.map (tvL M' (q + 6) a jc')) (tvL M' (q + 6) a jc' b') = g a) ∧ fr (pW q) (qW q) M M' ∧ fr (pWr r) (qWr r) R R')
theorem ls_eitherL {n D Ms q r dp w : Nat} (Ei : x_m → Option x_m) (hE : dp < 40 → EI n D Ms q r (dp + 1) w Ei) (hdp : dp ≤ 40) {M0 R0 : x_m} {cc0 jc0 sn0 : Nat} (h00 : jc0 ≤ cc0) : ∀ (v : Nat), v ≤ w → ∀ (u g : Nat) (C : Option (Int32 × x_m)) (S : Option x_m), v < g → v ≤ u → v ≤ x_fu → outG n D Ms q r dp M0 R0 cc0 jc0 sn0 v C S (fun _ => True) →
    outG n D Ms q r dp M0 R0 cc0 jc0 sn0 u C (S.bind (B_MD_either_4 Ei g)) (fun k' => k' ≠ 32) ∨ outF q r M0 R0 C (S.bind (B_MD_either_4 Ei g)) := by
  intro v
  induction v using Nat.strongRecOn with
  | _ v ih =>
    intro hvw u g C S hg hu hx hB
    obtain ⟨M, R, mr, k, s, e, e0, f, pt, h, cc, jc, sn, b, oo, G, ⟨a1, a2, a3, a4, a5, a6, a7, a8, a9, a10⟩, ⟨b1, b2, b3, b4, b5, b6, b7, b8, b9, b10, b11, b12, b13⟩, ⟨c1, c2, c3, c4, c5, c6, c7⟩⟩ := hB
    cases g with
    | zero => omega
    | succ g =>
    rw [a2, Option.bind_some]
    have hz := b1.1
    have hq := hz.2.2.2.2.2.1
    have hr := hz.2.2.2.2.2.2
    have c60 := b1.2.1.2.2.2.1
    have j59 := b1.2.1.2.2.2.2.1
    have hn := hz.1.1
    have mg := mu_ge n k e
    have oob : oo ≠ none → jc < 59 := by intro hne; rw [if_neg hne] at b12; omega
    by_cases k32 : k = 32
    · subst k32
      have eq := RS_good a3 (by omega) (by omega)
      subst eq
      cases h with
      | zero => omega
      | succ h =>
      have w15 : F_MD_isWord 15 (rt R 32 s e) = _ := F_MD_isWord_eq R (s := s) (e := e) (show 32 ≤ 36 by omega) (by omega) (by omega) (w := 15) (by omega)
      rw [B_MD_either_4, if_pos (show (rt R 32 s e).1 387 5 = 0 from Zl_5 hz.1), w15, Option.bind_some, show bI (decide (32 = 17 + 15)) = 1 from rfl]
      simp only [show ((1 : Int32) = 0) = False from by decide, if_false]
      rw [a1, post_skip h f (xI pt) (show q + 6 ≠ 3 by omega) b1.2.1.2.2.1 hdp (by omega) (Or.inl (by omega))]
      obtain ⟨M1, z, jc1, s1, s2, s3, s4, s5, s6, s7, s8, s9, s10, s11, s12, s13⟩ := startAlternative_spec (k := 32) (s := s) (e := e) (show q + 6 ≠ 3 by omega) b1.2.1 (by omega) b11 b10 oo b3 b5 b6 b7 oob
      have hW : restW f (q + 6) (xI pt) (ct M 32 s e) = (F_LX_advance (ct M1 32 s e)).bind fun r156 => B_QG_readWhere_17 f (q + 6) (xI pt + 1) r156 := by
        unfold restW B_QG_readWhere_152
        rw [show (ct M 32 s e).2.2.1 3 1 = x_N + 32 from rfl, if_pos (by unfold x_kv; simp), if_pos rfl, s1, Option.bind_some]
      rw [hW]
      have st1 : CSt M1 R n D Ms q r cc jc1 dp sn := CSt_cls b1 s13 s2 b1.2.2.2.2.1
      obtain ⟨M2, R2, mr2, k2, s2', e2, i1, i2, i3, i4, i5, i6, i7, i8, i9⟩ := stepQ st1.1 (k := 32) (s := s) a4.2.1
      rw [i1, i2, Option.bind_some, Option.bind_some, xI_add1]
      have hlt := mu_step (n := n) (e := e) i7 (show 32 ≠ 0 by omega)
      have st2 := CSt_tok st1 i4 i5 i6
      have e2' := tok_2 i5
      have e2r : R2.2.1 = R.2.1 := by funext x; exact i6.2.1 x id
      have jcc : jc1 + 1 ≤ cc ∧ cc + jc0 = cc0 + jc1 + 1 := by
        by_cases ho : oo = none
        · rw [if_pos ho] at b12 s11; omega
        · rw [if_neg ho] at b12 s11; omega
      have hboth := ls_both Ei hE M2 R2 mr2 k2 s2' e2 e f (pt + 1) cc jc1 sn (by omega) st2 i3 i7 (by omega) (by omega) (by rw [e2', s7]; exact b4) (by rw [e2']; exact s6) (by omega)
      have fM2 := fr_trans c6 (fr_trans (upNQ s13) (upw i5))
      have fR2 := fr_trans c7 (upwr i6)
      have hcomp : ((F_MD_both Ei mr2).bind fun r25 => (F_MD_say (-3) r25).bind fun r31 => B_MD_either_4 Ei g r31) = ((F_MD_both Ei mr2).bind fun r25 => F_MD_say (-3) r25).bind (B_MD_either_4 Ei g) := by
        cases F_MD_both Ei mr2 <;> rfl
      rw [hcomp]
      rcases hboth with hB2 | hF2
      · obtain ⟨M3, R3, mr3, k3, s3', e3, e03, f3, pt3, h3, cc3, jc3, sn3, b3', G3, ⟨p1, p2, p3, p4, p5, p6, p7, p8, p9⟩, ⟨q1, q2, q3, q4, q5, q6, q7, q8, q9, q10, q11, q12, q13⟩, ⟨r1, r2, r3, r4, r5, r6, r7⟩⟩ := hB2
        have wle : (43 - dp) * (cc3 - cc) ≤ 43 * (cc3 - cc) := Nat.mul_le_mul_right _ (by omega)
        have c603 := q1.2.1.2.2.2.1
        have snb : sn3 + 1 ≤ 43 * cc3 := by have := b1.2.2.2.2.2.2; omega
        obtain ⟨R4, mr4, sn4, y1, y2, y3, y4, y5, y6, y7, y8⟩ := say_RS (-3) q1 p3 snb
        have hS : (F_MD_both Ei mr2).bind (fun r25 => F_MD_say (-3) r25) = some mr4 := by
          rw [p2, Option.bind_some]; exact y1
        refine ih (mu n k2 e2) (by omega) (by omega) u g _ _ (by omega) (by omega) (by omega) ?_
        have e12 : cc3 + jc1 = cc + jc3 + 1 := q12
        have ms := mul_split (43 - dp) cc0 cc cc3 (by omega) (by omega)
        have vz : vld cc3 jc3 z := vld_mono s4 (by omega) q11
        refine ⟨M3, R4, mr4, k3, s3', e3, e03, f3, pt3, h3, cc3, jc3, sn4, b3', some z, fun a => G a || G3 a, ⟨p1, hS, y2, p4, p5, p6, p7, p8, p9, trivial⟩, ⟨y3, by omega, ⟨?_, vz⟩, q4, q5, q6, ?_, ?_, ?_, ?_, by omega, ?_, fun h => absurd h (by simp)⟩, ⟨?_, by omega, ?_, ?_, ?_, fr_trans fM2 r6, fr_trans fR2 (fr_trans r7 y7)⟩⟩
        · rw [q3, e2']; exact s3
        · intro hv
          exact q7 (vld_mono hv (by omega) (by omega))
        · exact lnK_trans b8 (lnK_trans s8 (lnK_trans (fun i _ => by rw [e2']; exact ⟨rfl, rfl, rfl⟩ : lnK M1 M2 (q + 6) dp) q8 (Nat.le_refl _)) (Nat.le_refl _)) (Nat.le_refl _)
        · exact agM_trans b9 (agM_trans s9 (agM_trans (tok_ag i5 (q + 6) cc jc1) q9 (Nat.le_refl _) (Nat.le_refl _)) (Nat.le_refl _) (by omega)) (by omega) b11
        · exact clo_ag (clo_ag s10 (tok_ag i5 (q + 6) cc jc1) (by omega)) q9 (by omega)
        · rw [if_neg (by simp)]; omega
        · intro j hj
          rw [y6 j (by omega), r1 j (by omega), e2r, c1 j hj]
        · omega
        · intro x1 x2
          obtain ⟨z1, z2⟩ := y8 x1 x2
          have sA : Seg (R4.2.1 (r + 8)) sn0 sn cc0 cc G := Seg_congr (c4 (by omega) (by omega)) (fun j _ hj => by rw [y6 j (by omega), r1 j hj, e2r])
          have sB : Seg (R4.2.1 (r + 8)) sn sn3 cc cc3 G3 := Seg_congr (r4 x1 x2) (fun j _ hj => y6 j hj)
          rw [z1]
          exact Seg_or sA sB z2
        · intro a
          have t1 : tvL M3 (q + 6) a jc3 z = tvL M2 (q + 6) a jc1 z := by
            rw [tv_le M3 (q + 6) a q11 (by unfold vld at s4; omega)]
            exact tv_congr c60 (st2.2.1.2.2.2.2.1) st2.2.1.2.2.2.2.2.2.1 q9 a jc1 (Nat.le_refl _) z s4
          show (tvL M3 (q + 6) a jc3 z || tvL M3 (q + 6) a jc3 b3') = (G a || G3 a)
          rw [t1, tvL_2 e2', s12 a, c5 a, r5 a]
          rfl
      · right
        obtain ⟨mc, mr', x1, x2, x3, x4, x5⟩ := hF2
        have hS : (F_MD_both Ei mr2).bind (fun r25 => F_MD_say (-3) r25) = some mr' := by
          rw [x2, Option.bind_some, F_MD_say_f _ _ (ne_pos x3.2.2)]
        rw [x1, hS, Option.bind_some]
        refine ⟨mc, mr', rfl, ?_, x3, fr_trans fM2 x4, fr_trans fR2 x5⟩
        cases g with
        | zero => have := mu_ge n k2 e2; omega
        | succ g =>
        rw [B_MD_either_4, if_neg (ne_pos x3.2.2)]
        rfl
    · left
      rw [either4_end Ei g a3 (Zl_5 hz.1) a4.2.2.2.1 k32]
      exact ⟨M, R, mr, k, s, e, e0, f, pt, h, cc, jc, sn, b, oo, G, ⟨a1, rfl, a3, a4, by omega, a6, a7, a8, a9, k32⟩, ⟨b1, b2, b3, b4, b5, b6, b7, b8, b9, b10, b11, b12, b13⟩, ⟨c1, c2, c3, c4, c5, c6, c7⟩⟩
theorem ls_eitherB {n D Ms q r dp w : Nat} (Ei : x_m → Option x_m) (hE : dp < 40 → EI n D Ms q r (dp + 1) w Ei) : EI n D Ms q r dp w (F_MD_eitherB Ei) := by
  intro M R mr k s e e0 f pt cc jc sn hw hst hs ht hpt hf hbo hba hna hjc
  have hn := hst.1.1.1
  have mg := mu_ge n k e
  have hdp := hst.2.1.2.2.2.2.2.1
  unfold F_MD_eitherB
  rcases ls_both Ei hE M R mr k s e e0 f pt cc jc sn hw hst hs ht hpt hf hna hba hjc with hB | hF
  · have hG : outG n D Ms q r dp M R cc jc sn (mu n k e) (B_QG_readWhere_17 f (q + 6) (xI pt) (ct M k s e)) (F_MD_both Ei mr) (fun _ => True) := by
      obtain ⟨M3, R3, mr3, k3, s3, e3, e03, f3, pt3, h3, cc3, jc3, sn3, b3', G3, ⟨p1, p2, p3, p4, p5, p6, p7, p8, p9⟩, ⟨q1, q2, q3, q4, q5, q6, q7, q8, q9, q10, q11, q12, q13⟩, ⟨r1, r2, r3, r4, r5, r6, r7⟩⟩ := hB
      refine ⟨M3, R3, mr3, k3, s3, e3, e03, f3, pt3, h3, cc3, jc3, sn3, b3', none, G3, ⟨p1, p2, p3, p4, p5, p6, p7, p8, p9, trivial⟩, ⟨q1, q2, ?_, q4, q5, q6, q7, q8, q9, q10, q11, q12, fun _ => q13⟩, ⟨r1, r2, r3, r4, ?_, r6, r7⟩⟩
      · show M3.2.1 (q + 6 + 7) dp = -1
        rw [q3]; exact hbo
      · intro a
        exact r5 a
    rcases ls_eitherL Ei hE hdp hjc (mu n k e) (by omega) (mu n k e) x_fu _ _ (by unfold x_fu; omega) (Nat.le_refl _) (by unfold x_fu; omega) hG with hO | hF
    · left
      obtain ⟨M3, R3, mr3, k3, s3, e3, e03, f3, pt3, h3, cc3, jc3, sn3, b3', oo, G3, ⟨p1, p2, p3, p4, p5, p6, p7, p8, p9, p10⟩, qq, rr⟩ := hO
      exact ⟨M3, R3, mr3, k3, s3, e3, e03, f3, pt3, h3, cc3, jc3, sn3, b3', oo, G3, ⟨p1, p2, p3, p4, p5, p6, p7, p8, p9, p10⟩, qq, rr⟩
    · right; exact hF
  · right
    obtain ⟨mc, mr', x1, x2, x3, x4, x5⟩ := hF
    rw [x1, x2, Option.bind_some]
    refine ⟨mc, mr', rfl, ?_, x3, x4, x5⟩
    rw [show x_fu = 199999 + 1 from rfl, B_MD_either_4, if_neg (ne_pos x3.2.2)]
    rfl
theorem ls_either {n D Ms q r w : Nat} : ∀ (kk dp : Nat), 41 ≤ kk + dp → dp ≤ 40 → EI n D Ms q r dp w (F_MD_either kk) := by
  intro kk
  induction kk with
  | zero => intro dp h1 h2; omega
  | succ kk ih =>
    intro dp h1 h2
    exact ls_eitherB (F_MD_either kk) (fun h => ih (dp + 1) (by omega) (by omega))
