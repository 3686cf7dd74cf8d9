/-! where .. -/
theorem ls_where {M R : x_m} {n D Ms q r s e : Nat} (hst : CSt M R n D Ms q r 0 0 0 0) (he : e ≤ n) (h7 : M.2.1 (q + 6 + 7) 0 = -1) (h8 : M.2.1 (q + 6 + 8) 0 = -1) (h9 : M.2.1 (q + 6 + 9) 0 = 0) :
    (∃ (M' R' mr' : x_m) (k' s' e' e0' cc jc sn : Nat) (G : (Nat → Bool) → Bool), F_QG_readWhere (ct M 21 s e) = some (1, ct M' k' s' e') ∧ (F_MD_read (rt R 21 s e)).bind (F_MD_either 42) = some mr' ∧ RS R' mr' k' s' e' ∧ TF n e0' k' s' e' ∧ mu n k' e' < mu n 21 e ∧ CSt M' R' n D Ms q r cc jc 0 sn ∧ 0 < cc ∧ (k' ≠ 1 → k' ≠ 36 → Seg (R'.2.1 (r + 8)) 0 sn 0 cc G) ∧ (∀ a, tvL M' (q + 6) a jc (if jc = 0 then 0 else 60 + jc - 1) = G a) ∧ fr (pW q) (qW q) M M' ∧ fr (pWr r) (qWr r) R R') ∨
    outF q r M R (F_QG_readWhere (ct M 21 s e)) ((F_MD_read (rt R 21 s e)).bind (F_MD_either 42)) := by
  have hz := hst.1
  have hq := hz.2.2.2.2.2.1
  have hr := hz.2.2.2.2.2.2
  have hn := hz.1.1
  obtain ⟨M2, R2, mr2, k2, s2, e2, i1, i2, i3, i4, i5, i6, i7, i8, i9⟩ := stepQ hz (k := 21) (s := s) he
  have hC : F_QG_readWhere (ct M 21 s e) = B_QG_readWhere_17 x_fu (q + 6) (xI 0) (ct M2 k2 s2 e2) := by
    unfold F_QG_readWhere
    rw [show (ct M 21 s e).2.2.1 114 4 = q from hz.2.2.2.1, if_pos (y_qb hq), i1, Option.bind_some]
    rfl
  rw [hC, i2, Option.bind_some]
  have e2' := tok_2 i5
  have hlt := mu_step (n := n) (e := e) i7 (show 21 ≠ 0 by omega)
  have mg := mu_ge n k2 e2
  have st2 := CSt_tok hst i4 i5 i6
  rcases ls_either (n := n) (D := D) (Ms := Ms) (q := q) (r := r) (w := mu n k2 e2 + 1) 42 0 (by omega) (by omega) M2 R2 mr2 k2 s2 e2 e x_fu 0 0 0 0 (by omega) st2 i3 i7 (by omega) (by unfold x_fu; omega) (by rw [e2']; exact h7) (by rw [e2']; exact h8) (by rw [e2']; exact h9) (Nat.le_refl _) with hO | hF
  · left
    obtain ⟨M3, R3, mr3, k3, s3, e3, e03, f3, pt3, h3, cc3, jc3, sn3, b3, oo, G, ⟨a1, a2, a3, a4, a5, a6, a7, a8, a9, a10⟩, ⟨b1, b2, b3', b4, b5, b6, b7, b8, b9, b10, b11, b12, b13⟩, ⟨c1, c2, c3, c4, c5, c6, c7⟩⟩ := hO
    cases h3 with
    | zero => omega
    | succ h3 =>
    have I3 := b1.2.1
    have c603 := I3.2.2.2.1
    have oob : oo ≠ none → jc3 < 59 := by intro hne; rw [if_neg hne] at b12; omega
    obtain ⟨M4, z, jc4, d1, d2, d3, d4, d5, d6, d7, d8, d9, d10⟩ := endLine_spec (k := k3) (s := s3) (e := e3) (cc0 := 0) (jc0 := 0) (show q + 6 ≠ 3 by omega) I3 (by omega) (by omega) oo b3' b5 b6 (by unfold vld; omega) oob
    have hP : Post (h3 + 1) f3 (q + 6) (xI pt3) (ct M3 k3 s3 e3) = some (1, ct M4 k3 s3 e3) := by
      rw [post_skip h3 f3 (xI pt3) (show q + 6 ≠ 3 by omega) I3.2.2.1 (by omega) a4.2.2.2.1 (Or.inr rfl)]
      unfold restW
      rw [show (ct M3 k3 s3 e3).2.2.1 3 1 = kRf k3 from rfl]
      simp only [kRf_kv a4.2.2.2.1, if_true, kRf_is (j := 32) a4.2.2.2.1 (by omega) (by omega), kRf_is (j := 31) a4.2.2.2.1 (by omega) (by omega)]
      rw [if_neg a10, if_neg a9]
      unfold F_CN_finish
      rw [d1, Option.bind_some]
      simp only [Option.bind_some]
      rw [ct_o _ _ _ _ _ (show q + 6 ≠ 3 by omega), d2.2.2.1, if_pos (show xI 0 = 0 from rfl)]
      rfl
    have st4 : CSt M4 R3 n D Ms q r cc3 jc4 0 sn3 := CSt_cls b1 d9 d2 b1.2.2.2.2.1
    refine ⟨M4, R3, mr3, k3, s3, e3, e03, cc3, jc4, sn3, G, a1.trans hP, a2, a3, a4, by omega, st4, b2, c4, fun a => ?_, fr_trans (upw i5) (fr_trans c6 (upNQ d9)), fr_trans (upwr i6) c7⟩
    have hroot : (if jc4 = 0 then 0 else 60 + jc4 - 1) = z := by
      by_cases ho : oo = none
      · rw [d10, if_pos ho]
        rw [if_pos ho] at d6
        obtain ⟨x1, x2⟩ := b13 ho
        by_cases hj : jc3 = 0
        · rw [if_pos (by omega)]; exact (x1 hj).symm
        · rw [if_neg (by omega), x2 (by omega)]; omega
      · rw [d10, if_neg ho]
        rw [if_neg ho] at d6
        rw [if_neg (by omega)]; omega
    rw [hroot, d7 a, c5 a]
  · right
    exact outF_pre hF (upw i5) (upwr i6)
