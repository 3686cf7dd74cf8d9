/-! one statement in step -/
def stC (k : Nat) (m : x_m) : Option (Int32 × x_m) := if k = 20 then F_QG_readQuestion m else F_CG_readStatement m
theorem bassoc {α β γ : Type} (x : Option α) (f : α → Option β) (g : β → Option γ) : (x.bind fun r => (f r).bind g) = (x.bind f).bind g := by
  cases x <;> rfl
def outS (n : Nat) (M R : x_m) (e : Nat) (C : Option (Int32 × x_m)) (S : Option x_m) : Prop := ∃ M' R' s' e' D' Ms' q' q2' r' r2', C = some (1, ct M' 8 s' e') ∧ S = some (rt R' 8 s' e') ∧ Zl M' R' n ∧ CO M' R' D' Ms' q' q2' r' r2' ∧ FC M M' ∧ FR R R' ∧ e < e' ∧ e' ≤ n
def outSF (M R : x_m) (C : Option (Int32 × x_m)) (S : Option x_m) : Prop := ∃ mc mr D' Ms' q' q2' r' r2', C = some (0, mc) ∧ S = some mr ∧ Flt mc mr ∧ CO mc mr D' Ms' q' q2' r' r2' ∧ FC M mc ∧ FR R mr
theorem FC_ct (M : x_m) (k s e : Nat) : FC M (ct M k s e) := FC_pC (fr_ct M k s e) (fun _ z => z.elim)
theorem FR_rt (M : x_m) (k s e : Nat) : FR M (rt M k s e) := FR_pR (fr_rt M k s e) (fun _ z => z.elim)
theorem out_tell {M R : x_m} {D Ms q q2 r r2 k s e : Nat} (h : CO M R D Ms q q2 r r2) (X p : Int32) (hX : 0 < X) : outSF M R (some (0, cf (ct M k s e) X p)) (some (rf (rt R k s e) X p)) :=
  ⟨_, _, D, Ms, q, q2, r, r2, rfl, rfl, Flt_cr _ _ _ _ hX, CO_t h (fr_trans (fr_ct _ _ _ _) (fr_cf _ _ _)) (fr_trans (fr_rt _ _ _ _) (fr_rf _ _ _)), FC_pC (fr_trans (fr_ct _ _ _ _) (fr_cf _ _ _)) (fun _ z => z.elim), FR_pR (fr_trans (fr_rt _ _ _ _) (fr_rf _ _ _)) (fun _ z => z.elim)⟩
theorem ls_stQ {M R : x_m} {n D Ms q q2 r r2 s e : Nat} (hz : Zl M R n) (hc : CO M R D Ms q q2 r r2) (ho : M.1 4 4 = 1) (he : e ≤ n) :
    outS n M R e (F_QG_readQuestion (ct M 20 s e)) (F_MD_question (rt R 20 s e)) ∨ outSF M R (F_QG_readQuestion (ct M 20 s e)) (F_MD_question (rt R 20 s e)) := by
  have hq := hc.hq
  have hr := hc.hr
  have zq : ZQ M R n D Ms q r := ⟨hz, hc.zd, LR_of hc, hc.q4, hc.r22, by omega, by omega⟩
  rcases ls_question zq (by rw [ho]; decide) he hc.q3 hc.r21 (by omega) (by omega) (s := s) with ⟨M', R', s', e', a1, a2, a3, a4, a5, a6, a7, a8, a9, a10, a11, a12, a13, a14⟩ | ⟨mc, mr, a1, a2, a3, a4, a5⟩
  · left
    have e1 : e < e' := by unfold mu at a5; rw [if_neg (by omega)] at a5; omega
    refine ⟨M', R', s', e', D, Ms, q2, q, r2, r, a1, a2, Zl_w hz (a13.1 _ _ (by unfold pQ; omega)) (fun a h => a13.2.1 _ (by unfold qQ; omega)) (a14.1 _ _ (by unfold pQr' pQr; omega)) (fun a h => a14.2.1 _ (by unfold qQr; omega)) a12, ?_, ⟨fun a b x => a13.1 _ _ (by unfold pQ; omega), fun a x => a13.2.1 _ (by unfold qQ; omega), fun a b x => a13.2.2.1 _ _ (by unfold wQ; omega)⟩, ⟨fun a b x => a14.1 _ _ (by unfold pQr' pQr; omega), fun a x => a14.2.1 _ (by unfold qQr; omega), fun a b x y => a14.2.2.1 _ _ (by unfold wQr; omega), a14.2.2.2⟩, e1, a4⟩
    have oc : M.1 4 4 = 1 ∧ R.1 387 2 = 1 ∧ OpC M R D := by
      rcases hc.opn with ⟨b1, b2, b3⟩ | b
      · rw [ho] at b1; exact absurd b1 (by decide)
      · exact b
    refine ⟨?_, ?_, ?_, ?_, a7, a8, a9, a10, by omega, by omega, Or.inr ⟨a11, (a13.1 _ _ (by unfold pQ; omega)).trans ho, a6⟩, Or.inr ⟨(a13.1 _ _ (by unfold pQ; omega)).trans ho, (a14.1 _ _ (by unfold pQr' pQr; omega)).trans oc.2.1, OpC_k oc.2.2 hc.zd.2.2.1 (fun a b x y => a13.1 _ _ (by unfold pQ; omega)) (fun a x y => a13.2.1 _ (by unfold qQ; omega)) (fun a x y => a14.2.1 _ (by unfold qQr; omega))⟩⟩
    · rw [a13.2.1 2 (by unfold qQ; omega)]; exact hc.tb
    · rw [a13.2.1 2 (by unfold qQ; omega), a14.2.1 388 (by unfold qQr; omega)]; exact hc.tt
    · unfold NK
      rw [a13.2.1 6 (by unfold qQ; omega), a13.2.1 7 (by unfold qQ; omega), a14.2.1 393 (by unfold qQr; omega), a14.2.1 394 (by unfold qQr; omega)]; exact hc.nk
    · unfold Zd
      rw [a13.1 4 2 (by unfold pQ; omega), a13.1 4 3 (by unfold pQ; omega), a14.1 387 13 (by unfold pQr' pQr; omega), a14.1 387 18 (by unfold pQr' pQr; omega)]; exact hc.zd
  · right
    exact ⟨mc, mr, D, Ms, q, q2, r, r2, a1, a2, a3, CO_q hc a4 a5, FC_fr a4 (fun a b z => by unfold pQ at z; omega) (fun a z => by unfold qQ at z; omega), FR_fr a5 (fun a b z => by unfold pQr at z; omega) (fun a z => by unfold qQr at z; omega)⟩
theorem ls_stD {M R : x_m} {n D Ms q q2 r r2 k s e : Nat} (hz : Zl M R n) (hc : CO M R D Ms q q2 r r2) (ho : M.1 4 4 = 0) (he : e ≤ n) :
    outS n M R e ((F_LX_advance (ct M k s e)).bind F_CG_readDimension) (F_MD_dimension0 (rt R k s e)) ∨ outSF M R ((F_LX_advance (ct M k s e)).bind F_CG_readDimension) (F_MD_dimension0 (rt R k s e)) := by
  have hq := hc.hq
  have hr := hc.hr
  have nc := NewC_of hc ho
  rcases ls_dimension hz hc.zd he (k := k) (s := s) with ⟨M', R', s', e', l, a1, a2, a3, a4, a5, a6, a7, a8, a9, a10⟩ | ⟨mc, mr, a1, a2, a3, a4, a5, a6⟩
  · left
    have m1 : ∀ a b, (x_wS (x_wS M' (9 + 13 * D) 0 (xI l)) 4 2 (xI (D + 1))).1 a b = if a = 4 ∧ b = 2 then xI (D + 1) else if a = 9 + 13 * D ∧ b = 0 then xI l else M'.1 a b := fun _ _ => rfl
    have m2 : (x_wS (x_wS M' (9 + 13 * D) 0 (xI l)) 4 2 (xI (D + 1))).2 = M'.2 := rfl
    have n1 : ∀ a b, (x_wS (x_wA (x_wA R' 389 D (xI l)) 390 D 0) 387 13 (xI (D + 1))).1 a b = if a = 387 ∧ b = 13 then xI (D + 1) else R'.1 a b := fun _ _ => rfl
    have n2 : ∀ a i, (x_wS (x_wA (x_wA R' 389 D (xI l)) 390 D 0) 387 13 (xI (D + 1))).2.1 a i = if a = 390 ∧ i = D then 0 else if a = 389 ∧ i = D then xI l else R'.2.1 a i := fun _ _ => rfl
    have n3 : (x_wS (x_wA (x_wA R' 389 D (xI l)) 390 D 0) 387 13 (xI (D + 1))).2.2 = R'.2.2 := rfl
    have fz : Fz (x_wS (x_wS M' (9 + 13 * D) 0 (xI l)) 4 2 (xI (D + 1))) (x_wS (x_wA (x_wA R' 389 D (xI l)) 390 D 0) 387 13 (xI (D + 1))) := Fz_Sr (Fz_Ar (Fz_Ar (Fz_S (Fz_S (Zl_f a6) (by omega)) (by omega)))) (by omega)
    generalize x_wS (x_wS M' (9 + 13 * D) 0 (xI l)) 4 2 (xI (D + 1)) = M2 at *
    generalize x_wS (x_wA (x_wA R' 389 D (xI l)) 390 D 0) 387 13 (xI (D + 1)) = R2 at *
    have r2e : ∀ a, a ≠ 389 → a ≠ 390 → R2.2.1 a = R'.2.1 a := by
      intro a x y
      funext i
      rw [n2, if_neg (by omega), if_neg (by omega)]
    have z2 : Zl M2 R2 n := Zl_w a6 (by rw [m1, if_neg (by omega), if_neg (by omega)]) (fun a _ => by rw [m2]) (by rw [n1, if_neg (by omega)]) (fun a h => r2e a (by omega) (by omega)) fz
    refine ⟨M2, R2, s', e', D + 1, Ms, q, q2, r, r2, a4, a5, z2, ?_, ?_, ?_, a10, a9⟩
    · refine CO_new hc ho z2.2.2.1 z2.2.2.2.2.1 (Zl_nk z2) ⟨?_, ?_, by omega, ?_, ?_, hc.zd.2.2.2.2.2⟩ ?_ (fun a b x y => ?_) (fun b h => ?_) (fun b h => ?_) (fun b h => ?_) ?_
      · rw [m1, if_pos ⟨rfl, rfl⟩]
      · rw [n1, if_pos ⟨rfl, rfl⟩]
      · rw [m1, if_neg (by omega), if_neg (by omega), a7.1 _ _ (by unfold pC; omega)]; exact hc.zd.2.2.2.1
      · rw [n1, if_neg (by omega), a8.1 _ _ (by unfold pR; omega)]; exact hc.zd.2.2.2.2.1
      · rw [m1, if_neg (by omega), if_neg (by omega), a7.1 _ _ (by unfold pC; omega)]; exact ho
      · rw [m1, if_neg (by omega), if_neg (by omega), a7.1 _ _ (by unfold pC; omega)]
      · rw [m2, a7.2.2.1 _ _ (by omega)]
      · rw [n1, if_neg (by omega), a8.1 _ _ (by unfold pR; omega)]
      · rw [n3, a8.2.2.1 _ _ (by omega)]
      · refine ⟨fun d hd => ?_, fun d hd => ?_, fun d h1 h2 => ?_⟩
        · by_cases ed : d = D
          · subst ed
            refine ⟨l, 0, a2, a3, by omega, ?_, ?_, ?_, ?_, fun i j x => by omega, fun l i _ x => by omega⟩
            · rw [m1, if_neg (by omega), if_pos ⟨rfl, rfl⟩]
            · rw [n2, if_neg (by omega), if_pos ⟨rfl, rfl⟩]
            · rw [m1, if_neg (by omega), if_neg (by omega), a7.1 _ _ (by unfold pC; omega)]; exact nc.2.2 d (Nat.le_refl _) a1
            · rw [n2, if_pos ⟨rfl, rfl⟩]; rfl
          · refine DimR_k (nc.1 d (by omega)) (fun b => ?_) (fun l i hl => ?_) ?_ ?_ (fun j _ _ => ?_)
            · rw [m1, if_neg (by omega), if_neg (by omega), a7.1 _ _ (by unfold pC; omega)]
            · rw [m2, a7.2.1 _ (by unfold qN; omega)]
            · rw [n2, if_neg (by omega), if_neg (by omega), a8.2.1 _ (by unfold qNr; omega)]
            · rw [n2, if_neg (by omega), if_neg (by omega), a8.2.1 _ (by unfold qNr; omega)]
            · rw [n2, if_neg (by omega), if_neg (by omega), a8.2.1 _ (by unfold qNr; omega)]
        · rw [m2, a7.2.1 _ (by unfold qN; omega), a7.2.1 _ (by unfold qN; omega)]; exact nc.2.1 d hd
        · rw [m1, if_neg (by omega), if_neg (by omega), a7.1 _ _ (by unfold pC; omega)]; exact nc.2.2 d (by omega) h2
    · refine ⟨fun a b x => ?_, fun a x => ?_, fun a b x => ?_⟩
      · rw [m1, if_neg (by omega), if_neg (by omega), a7.1 _ _ (by unfold pC; omega)]
      · rw [m2, a7.2.1 _ (by unfold qN; omega)]
      · rw [m2, a7.2.2.1 _ _ (by omega)]
    · refine ⟨fun a b x => ?_, fun a x => ?_, fun a b x y => ?_, ?_⟩
      · rw [n1, if_neg (by omega), a8.1 _ _ (by unfold pR; omega)]
      · rw [r2e a (by omega) (by omega), a8.2.1 _ (by unfold qNr; omega)]
      · rw [n3, a8.2.2.1 _ _ y]
      · rw [n3, a8.2.2.2]
  · right
    exact ⟨mc, mr, D, Ms, q, q2, r, r2, a1, a2, a3, CO_n hc a4 a5 a6, FC_pC a4 (fun a z => by unfold qN at z; omega), FR_pR a5 (fun a z => by unfold qNr at z; omega)⟩
theorem ls_stM {M R : x_m} {n D Ms q q2 r r2 k s e : Nat} (hz : Zl M R n) (hc : CO M R D Ms q q2 r r2) (ho : M.1 4 4 = 0) (he : e ≤ n) :
    outS n M R e ((F_LX_advance (ct M k s e)).bind F_CG_readMeasure) (F_MD_measure (rt R k s e)) ∨ outSF M R ((F_LX_advance (ct M k s e)).bind F_CG_readMeasure) (F_MD_measure (rt R k s e)) := by
  have hq := hc.hq
  have hr := hc.hr
  have nc := NewC_of hc ho
  rcases ls_measure hz hc.zd he (k := k) (s := s) with ⟨M', R', s', e', a1, a4, a5, a6, a7, a8, a9, a10⟩ | ⟨mc, mr, a1, a2, a3, a4, a5, a6⟩
  · left
    have m1 : ∀ a b, (x_wS M' 4 3 (xI (Ms + 1))).1 a b = if a = 4 ∧ b = 3 then xI (Ms + 1) else M'.1 a b := fun _ _ => rfl
    have m2 : (x_wS M' 4 3 (xI (Ms + 1))).2 = M'.2 := rfl
    have n1 : ∀ a b, (x_wS R' 387 18 (xI (Ms + 1))).1 a b = if a = 387 ∧ b = 18 then xI (Ms + 1) else R'.1 a b := fun _ _ => rfl
    have n3 : (x_wS R' 387 18 (xI (Ms + 1))).2 = R'.2 := rfl
    have fz : Fz (x_wS M' 4 3 (xI (Ms + 1))) (x_wS R' 387 18 (xI (Ms + 1))) := Fz_Sr (Fz_S (Zl_f a6) (by omega)) (by omega)
    generalize x_wS M' 4 3 (xI (Ms + 1)) = M2 at *
    generalize x_wS R' 387 18 (xI (Ms + 1)) = R2 at *
    have z2 : Zl M2 R2 n := Zl_w a6 (by rw [m1, if_neg (by omega)]) (fun a _ => by rw [m2]) (by rw [n1, if_neg (by omega)]) (fun a h => by rw [n3]) fz
    refine ⟨M2, R2, s', e', D, Ms + 1, q, q2, r, r2, a4, a5, z2, ?_, ?_, ?_, a10, a9⟩
    · refine CO_new hc ho z2.2.2.1 z2.2.2.2.2.1 (Zl_nk z2) ⟨?_, ?_, hc.zd.2.2.1, ?_, ?_, by omega⟩ ?_ (fun a b x y => ?_) (fun b h => ?_) (fun b h => ?_) (fun b h => ?_) ?_
      · rw [m1, if_neg (by omega), a7.1 _ _ (by unfold pC; omega)]; exact hc.zd.1
      · rw [n1, if_neg (by omega), a8.1 _ _ (by unfold pR; omega)]; exact hc.zd.2.1
      · rw [m1, if_pos ⟨rfl, rfl⟩]
      · rw [n1, if_pos ⟨rfl, rfl⟩]
      · rw [m1, if_neg (by omega), a7.1 _ _ (by unfold pC; omega)]; exact ho
      · rw [m1, if_neg (by omega), a7.1 _ _ (by unfold pC; omega)]
      · rw [m2, a7.2.2.1 _ _ (by omega)]
      · rw [n1, if_neg (by omega), a8.1 _ _ (by unfold pR; omega)]
      · rw [n3, a8.2.2.1 _ _ (by omega)]
      · exact NewC_k nc hc.zd.2.2.1 (fun a b x y => by rw [m1, if_neg (by omega), a7.1 _ _ (by unfold pC; omega)]) (fun a x y => by rw [m2, a7.2.1 _ (by unfold qN; omega)]) (fun a x y => by rw [n3, a8.2.1 _ (by unfold qNr; omega)])
    · refine ⟨fun a b x => ?_, fun a x => ?_, fun a b x => ?_⟩
      · rw [m1, if_neg (by omega), a7.1 _ _ (by unfold pC; omega)]
      · rw [m2, a7.2.1 _ (by unfold qN; omega)]
      · rw [m2, a7.2.2.1 _ _ (by omega)]
    · refine ⟨fun a b x => ?_, fun a x => ?_, fun a b x y => ?_, ?_⟩
      · rw [n1, if_neg (by omega), a8.1 _ _ (by unfold pR; omega)]
      · rw [n3, a8.2.1 _ (by unfold qNr; omega)]
      · rw [n3, a8.2.2.1 _ _ y]
      · rw [n3, a8.2.2.2]
  · right
    exact ⟨mc, mr, D, Ms, q, q2, r, r2, a1, a2, a3, CO_n hc a4 a5 a6, FC_pC a4 (fun a z => by unfold qN at z; omega), FR_pR a5 (fun a z => by unfold qNr at z; omega)⟩
