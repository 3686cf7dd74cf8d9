/-! holds in step -/
theorem CndQ_h {M R M' R' : x_m} {q r D cc jc sn : Nat} {G : (Nat → Bool) → Bool} (h : CndQ M R q r D cc jc sn G) (hq : q = 115 ∨ q = 251) (hr : r = 395 ∨ r = 409) (hD : D ≤ 8) (f : rel6 (q + 6) M M') (g : rel7 R R') : CndQ M' R' q r D cc jc sn G := by
  obtain ⟨a1, a2, a3, a4, a5, a6, a7⟩ := h
  have e : ∀ a b, M'.1 a b = M.1 a b := fun a b => by rw [f.1]
  refine ⟨CI_ag a1 ⟨fun j _ => ?_, fun x _ => ?_⟩ (fun b => e _ _), (g.1 _ _ (by omega)).trans a2, (g.1 _ _ (by omega)).trans a3, Cmps_fr hq hD a1.2.2.2.1 a4 (fun i b hi => e _ _) (fun i hi => f.2.2 _ (by omega)) (fun d _ => e _ _) (fun a h1 h2 => g.2.2 a (by omega)), a5, a6, fun hc => ?_⟩
  · rw [f.2.2 (q + 6 + 2) (by omega), f.2.2 (q + 6 + 3) (by omega), f.2.2 (q + 6 + 4) (by omega)]; exact ⟨rfl, rfl, rfl⟩
  · rw [f.2.2 (q + 6 + 5) (by omega)]
  · rw [g.2.2 (r + 8) (by omega)]
    refine ⟨(a7 hc).1, fun a => ?_⟩
    rw [tvL_5 (M := M) (fun x h1 h2 => f.2.2 x (by omega))]
    exact (a7 hc).2 a
theorem QR_h {M R M' R' : x_m} {q r D : Nat} (h : QR M R q r D) (hq : q = 115 ∨ q = 251) (hr : r = 395 ∨ r = 409) (hD : D ≤ 8) (f : rel6 (q + 6) M M') (g : rel7 R R') : QR M' R' q r D := by
  obtain ⟨ni, ng, ns, cc, jc, sn, fs, G, a1, a2, a3, a4, a5, a6, a7, a8⟩ := h
  have e : ∀ a b, M'.1 a b = M.1 a b := fun a b => by rw [f.1]
  refine ⟨ni, ng, ns, cc, jc, sn, fs, G, a1, QI_k a2 (e _ _) (g.1 _ _ (by omega)) (fun a x y => f.2.2 a (by omega)) (fun a x y => g.2.2 a (by omega)), GQ_k a3 (e _ _) (g.1 _ _ (by omega)) (f.2.2 _ (by omega)) (g.2.2 _ (by omega)), a4, (e _ _).trans a5, (g.1 _ _ (by omega)).trans a6, ?_, CndQ_h a8 hq hr hD f g⟩
  rw [f.2.2 _ (by omega), g.2.2 _ (by omega)]; exact a7
def LH (n : Nat) (M R : x_m) (W S : Option (Int32 × x_m)) : Prop := ∃ code M' v R', W = some (code, M') ∧ S = some (v, R') ∧ R'.1 387 1 = code ∧ (code = 0 → M'.2.2.2 424 0 = if v = 0 then 0 else 1) ∧ SR M' R' n ∧ FC M M' ∧ FR R R'
theorem LH_holds {M R : x_m} {n : Nat} (h : SR M R n) : LH n M R (F_LW_holds M) (F_MD_holds R) := by
  have h' := h
  obtain ⟨D, Ms, q, q2, r, r2, hc, a1, a2, a3, a4, a5⟩ := h'
  have hq := hc.hq
  have hr := hc.hr
  have q2' : q2 = 115 ∨ q2 = 251 := by omega
  have r2' : r2 = 395 ∨ r2 = 409 := by omega
  have hD := hc.zd.2.2.1
  unfold F_LW_holds F_QR_holds F_MD_holds F_QU_isAsked B_QU_isAsked_12 B_MD_holds_13
  rw [hc.q3, if_pos (y_qb q2')]
  simp only [ref_1, show ((1 : Int32) ≤ 0) = False from by decide, show ((0 : Int32) ≤ 0) = True from by decide, if_false, if_true, show x_b1 0 = true from rfl, show x_b1 1 = true from rfl]
  rcases hc.ask with ⟨b1, b2⟩ | ⟨b1, b2, b3⟩
  · rw [b2.1, if_pos (Int32.le_refl _), Option.bind_some, if_pos b1]
    simp only [if_true, Option.bind_some]
    exact ⟨1, M, 0, x_wS R 387 1 1, rfl, rfl, wS_same _ _ _ _, fun z => absurd z (by decide), SR_1 h 1, FC_refl _, FR_S _ _ (by omega)⟩
  · have b3' := b3
    obtain ⟨ni, ng, ns, cc, jc, sn, fs, G, x1, x2, x3, x4, x5, x6, x7, ⟨y1, y2, y3, y4, y5, y6, y7⟩⟩ := b3
    obtain ⟨o1, o2, o3⟩ := OpC_of hc (show ¬ M.1 4 4 = 0 by rw [b2]; decide)
    have ni24 := x2.1
    rw [x2.2.1, if_neg (show ¬ xI ni ≤ 0 by show ¬ (xI ni ≤ xI 0); rw [xI_le (by omega) (by omega)]; omega), Option.bind_some, if_neg (show ¬ R.1 387 23 = 0 by rw [b1]; decide)]
    simp only [show ((1 : Int32) = 0) = False from by decide, if_false]
    have cc60 := y1.2.2.2.1
    have jc59 := y1.2.2.2.2.1
    have key : ∃ (b : Bool) (M' R' : x_m), F_CN_isTrueFor (q2 + 6) M = some (bI b, M') ∧ rel6 (q2 + 6) M M' ∧ B_MD_holds_29 x_fu 0 0 (x_wS R 387 1 0) = some (bI b, R') ∧ rel7 R R' ∧ R'.1 387 1 = 0 := by
      have r7 : rel7 R (x_wS R 387 1 0) := by
        refine ⟨fun a b x => ?_, rfl, fun _ _ => rfl⟩
        show (if a = 387 ∧ b = 1 then _ else _) = _
        rw [if_neg x]
      unfold F_CN_isTrueFor
      rw [y1.1]
      by_cases c0 : cc = 0
      · subst c0
        obtain ⟨z1, z2⟩ := y6 rfl
        subst z1
        rw [if_pos (show xI 0 = 0 from rfl), show x_fu = 199999 + 1 from rfl, B_MD_holds_29, show (x_wS R 387 1 0).2.2.1 387 21 = r2 from hc.r21, if_pos (y_mq r2'), r7.1 _ _ (by omega), y3, if_pos (show xI 0 ≤ 0 by decide), if_pos rfl]
        refine ⟨true, M, x_wS R 387 1 0, rfl, ⟨rfl, rfl, fun _ _ => rfl⟩, rfl, r7, wS_same _ _ _ _⟩
      · rw [if_neg (show ¬ xI cc = 0 from fun z => by rw [show (0 : Int32) = xI 0 from rfl, xI_eq (by omega) (by omega)] at z; exact c0 z)]
        obtain ⟨seg, tv⟩ := y7 (by omega)
        obtain ⟨m1, p1, p2, p3⟩ := p_11 (M := M) (R := R) (r := r2) q2' o3 hD y4 y1 cc 0 x_fu M (by omega) (by unfold x_fu; omega) ⟨rfl, rfl, fun _ _ => rfl⟩ (fun x y => by omega)
        obtain ⟨m2, p4, p5⟩ := p_71 (M := M) (p := q2 + 6) (a := atm M R q2) y1 (by omega) jc 0 x_fu m1 (by omega) (by unfold x_fu; omega) p2 (fun x hx => p3 x (by unfold vld at hx; omega))
        rw [show xI 0 = 0 from rfl] at p1 p4
        rw [p1, p4, tv]
        obtain ⟨g1, g2, g3, g4⟩ := seg
        have evx := g4 (atm M R q2) [] (by simp; omega)
        rw [Nat.sub_zero] at evx
        obtain ⟨m3, w1, w2, w3⟩ := p_29 (M := M) (R := R) (q := q2) (r := r2) (cc := cc) (sn := sn) o3 hD y4 cc60 hc.r21 r2' y3 (by omega) (fun j hj => g3 j (by omega) hj) sn 0 x_fu [] (G (atm M R q2)) (x_wS R 387 1 0) (by omega) (by unfold x_fu; omega) (by simp) evx r7 (fun i hi => by simp at hi)
        refine ⟨G (atm M R q2), m2, m3, rfl, p5, w1, w2, ?_⟩
        rw [w3]; exact wS_same _ _ _ _
    obtain ⟨b, M', R', k1, k2, k3, k4, k5⟩ := key
    rw [k1, k3, Option.bind_some]
    simp only [bI_1, if_true, Option.bind_some]
    refine ⟨0, x_wL M' 424 0 (if bI b = 0 then 0 else 1), bI b, R', rfl, rfl, k5, fun _ => wL_same _ _, SR_L ⟨D, Ms, q, q2, r, r2, ?_, a1, by rw [k2.1]; exact a2, (k4.1 _ _ (by omega)).trans a3, by rw [k2.1, k4.1 _ _ (by omega)]; exact a4, by rw [k2.1, k4.1 _ _ (by omega)]; exact a5⟩ _, ?_, ?_⟩
    · have e : ∀ a b, M'.1 a b = M.1 a b := fun a b => by rw [k2.1]
      refine ⟨?_, ?_, ?_, ?_, by rw [k2.2.1]; exact hc.q3, by rw [k2.2.1]; exact hc.q4, by rw [k4.2.1]; exact hc.r21, by rw [k4.2.1]; exact hc.r22, hc.hq, hc.hr, Or.inr ⟨(k4.1 _ _ (by omega)).trans b1, (e _ _).trans b2, QR_h b3' q2' r2' hD k2 k4⟩, Or.inr ⟨(e _ _).trans o2, (k4.1 _ _ (by omega)).trans o1, OpC_k o3 hD (fun a b _ _ => e _ _) (fun a x y => k2.2.2 a (by omega)) (fun a x y => k4.2.2 a (by omega))⟩⟩
      · rw [k2.2.2 2 (by omega)]; exact hc.tb
      · rw [k2.2.2 2 (by omega), k4.2.2 388 (by omega)]; exact hc.tt
      · unfold NK
        rw [k2.2.2 6 (by omega), k2.2.2 7 (by omega), k4.2.2 393 (by omega), k4.2.2 394 (by omega)]; exact hc.nk
      · unfold Zd
        rw [e, e, k4.1 _ _ (by omega), k4.1 _ _ (by omega)]; exact hc.zd
    · exact FC_trans ⟨fun a b x => by rw [k2.1], fun a x => k2.2.2 a (by omega), fun a b x => by rw [k2.2.1]⟩ (FC_L _ _)
    · exact ⟨fun a b x => k4.1 a b (by omega), fun a x => k4.2.2 a (by omega), fun a b x y => by rw [k4.2.1], by rw [k4.2.1]⟩
