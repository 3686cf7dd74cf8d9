/-! members, and the run -/
theorem VR_c {M R M' R' : x_m} {d L c : Nat} (hL : L ≤ 4) (hc : c ≤ 1000) (h : VR M R d L c) (k : kpV M M' d c) (k' : kpVr R R' d c) : VR M' R' d L c := VR_kp hL hc h k k' (Nat.le_refl _)
theorem NewC_mem {M R M' R' : x_m} {D d c : Nat} (h : NewC M R D) (hD : D ≤ 8) (hd : d < 8) (f : ∀ a b, 9 ≤ a → a < 113 → M'.1 a b = M.1 a b) (f2 : ∀ a, 9 ≤ a → a < 113 → ¬ qV d a → M'.2.1 a = M.2.1 a) (g : ∀ a, a = 389 ∨ a = 390 → R'.2.1 a = R.2.1 a) (hc : d < D → M.1 (9 + 13 * d) 1 = xI c) (hc2 : c ≤ 1000) (k : kpV M M' d c) (k' : kpVr R R' d c) : NewC M' R' D := by
  refine ⟨fun d' hd' => ?_, fun d' hd' => ?_, fun d' h1 h2 => (f _ _ (by omega) (by omega)).trans (h.2.2 d' h1 h2)⟩
  · by_cases ed : d' = d
    · subst ed
      obtain ⟨L, c', a1, a2, a3, a4, a5, a6, a7, a8, a9⟩ := h.1 d' hd'
      have : c' = c := by
        have := a6.symm.trans (hc hd')
        rwa [xI_eq (by omega) (by omega)] at this
      subst this
      refine ⟨L, c', a1, a2, a3, (f _ _ (by omega) (by omega)).trans a4, by rw [g 389 (by omega)]; exact a5, (f _ _ (by omega) (by omega)).trans a6, by rw [g 390 (by omega)]; exact a7, gRows_congr a1 a8 (fun l i hl hi => (kpV_Vc k (by omega) hi).symm), VR_c a2 a3 a9 k k'⟩
    · refine DimR_k (h.1 d' hd') (fun b => f _ _ (by omega) (by omega)) (fun l i hl => congrFun (f2 _ (by omega) (by omega) (by unfold qV; omega)) i) (by rw [g 389 (by omega)]) (by rw [g 390 (by omega)]) (fun j h1 h2 => k' j (by omega))
  · rw [f2 (15 + 13 * d') (by omega) (by omega) (by unfold qV; omega), f2 (21 + 13 * d') (by omega) (by omega) (by unfold qV; omega)]
    exact h.2.1 d' hd'
theorem ls_stB {M R : x_m} {n D Ms q q2 r r2 k s e : Nat} (hz : Zl M R n) (hc : CO M R D Ms q q2 r r2) (ho : M.1 4 4 = 0) (he : e ≤ n) :
    outS n M R e ((F_LX_advance (ct M k s e)).bind F_CG_readMembers) (F_MD_member (rt R k s e)) ∨ outSF M R ((F_LX_advance (ct M k s e)).bind F_CG_readMembers) (F_MD_member (rt R k s e)) := by
  have hq := hc.hq
  have hr := hc.hr
  have nc := NewC_of hc ho
  have hD := hc.zd.2.2.1
  rcases ls_members hz hc.zd nc.1 he (k := k) (s := s) with ⟨d, M', R', s', e', L, c, r', b1, b2, b3, b4, b5, b6, b7, b8, a4, a5, a6, a7, a8, k1, k2, g1, v1, a9, a10⟩ | ⟨mc, mr, d, b1, a1, a2, a3, a4, a5, kk⟩
  · left
    have m1 : ∀ a b, (x_wS M' (9 + 13 * d) 1 (xI r')).1 a b = if a = 9 + 13 * d ∧ b = 1 then xI r' else M'.1 a b := fun _ _ => rfl
    have m2 : (x_wS M' (9 + 13 * d) 1 (xI r')).2 = M'.2 := rfl
    have n1 : (x_wA R' 390 d (xI r')).1 = R'.1 := rfl
    have n2 : ∀ a i, (x_wA R' 390 d (xI r')).2.1 a i = if a = 390 ∧ i = d then xI r' else R'.2.1 a i := fun _ _ => rfl
    have n3 : (x_wA R' 390 d (xI r')).2.2 = R'.2.2 := rfl
    have fz : Fz (x_wS M' (9 + 13 * d) 1 (xI r')) (x_wA R' 390 d (xI r')) := Fz_Ar (Fz_S (Zl_f a6) (by omega))
    generalize x_wS M' (9 + 13 * d) 1 (xI r') = M2 at *
    generalize x_wA R' 390 d (xI r') = R2 at *
    have r2e : ∀ a, a ≠ 390 → R2.2.1 a = R'.2.1 a := by
      intro a x
      funext i
      rw [n2, if_neg (by omega)]
    have z2 : Zl M2 R2 n := Zl_w a6 (by rw [m1, if_neg (by omega)]) (fun a _ => by rw [m2]) (by rw [n1]) (fun a h => r2e a (by omega)) fz
    refine ⟨M2, R2, s', e', D, Ms, q, q2, r, r2, a4, a5, z2, ?_, ?_, ?_, a10, a9⟩
    · refine CO_new hc ho z2.2.2.1 z2.2.2.2.2.1 (Zl_nk z2) ⟨?_, ?_, hD, ?_, ?_, hc.zd.2.2.2.2.2⟩ ?_ (fun a b x y => ?_) (fun b h => ?_) (fun b h => ?_) (fun b h => ?_) ?_
      · rw [m1, if_neg (by omega), a7.1 _ _ (by unfold pC; omega)]; exact hc.zd.1
      · rw [n1, a8.1 _ _ (by unfold pR; omega)]; exact hc.zd.2.1
      · rw [m1, if_neg (by omega), a7.1 _ _ (by unfold pC; omega)]; exact hc.zd.2.2.2.1
      · rw [n1, a8.1 _ _ (by unfold pR; omega)]; exact hc.zd.2.2.2.2.1
      · rw [m1, if_neg (by omega), a7.1 _ _ (by unfold pC; omega)]; exact ho
      · rw [m1, if_neg (by omega), a7.1 _ _ (by unfold pC; omega)]
      · rw [m2, a7.2.2.1 _ _ (by omega)]
      · rw [n1, a8.1 _ _ (by unfold pR; omega)]
      · rw [n3, a8.2.2.1 _ _ (by omega)]
      · refine ⟨fun d' hd' => ?_, fun d' hd' => ?_, fun d' h1 h2 => ?_⟩
        · by_cases ed : d' = d
          · subst ed
            refine ⟨L, r', b2, b3, b8, ?_, ?_, ?_, ?_, ?_, ?_⟩
            · rw [m1, if_neg (by omega), a7.1 _ _ (by unfold pC; omega)]; exact b4
            · rw [n2, if_neg (by omega), a8.2.1 _ (by unfold qVr; omega)]; exact b5
            · rw [m1, if_pos ⟨rfl, rfl⟩]
            · rw [n2, if_pos ⟨rfl, rfl⟩]
            · refine gRows_congr b2 g1 (fun l i hl hi => ?_)
              unfold Vc
              rw [m2]
            · intro l i hl hi
              rw [m2, r2e _ (by omega)]; exact v1 l i hl hi
          · refine DimR_k (nc.1 d' hd') (fun b => ?_) (fun l i hl => ?_) ?_ ?_ (fun j h1 h2 => ?_)
            · rw [m1, if_neg (by omega), a7.1 _ _ (by unfold pC; omega)]
            · rw [m2, a7.2.1 _ (by unfold qV; omega)]
            · rw [r2e _ (by omega), a8.2.1 _ (by unfold qVr; omega)]
            · rw [n2, if_neg (by omega), a8.2.1 _ (by unfold qVr; omega)]
            · rw [r2e _ (by omega)]; exact k2 j (by omega)
        · rw [m2, a7.2.1 (15 + 13 * d') (by unfold qV; omega), a7.2.1 (21 + 13 * d') (by unfold qV; omega)]; exact nc.2.1 d' hd'
        · rw [m1, if_neg (by omega), a7.1 _ _ (by unfold pC; omega)]; exact nc.2.2 d' h1 h2
    · refine ⟨fun a b x => ?_, fun a x => ?_, fun a b x => ?_⟩
      · rw [m1, if_neg (by omega), a7.1 _ _ (by unfold pC; omega)]
      · rw [m2, a7.2.1 _ (by unfold qV; omega)]
      · rw [m2, a7.2.2.1 _ _ (by omega)]
    · refine ⟨fun a b x => ?_, fun a x => ?_, fun a b x y => ?_, ?_⟩
      · rw [n1, a8.1 _ _ (by unfold pR; omega)]
      · rw [r2e a (by omega), a8.2.1 _ (by unfold qVr; omega)]
      · rw [n3, a8.2.2.1 _ _ y]
      · rw [n3, a8.2.2.2]
  · right
    have cE : ∃ c, c ≤ 1000 ∧ (d < D → M.1 (9 + 13 * d) 1 = xI c) := by
      by_cases hd : d < D
      · obtain ⟨L, c, x1, x2, x3, x4, x5, x6, _⟩ := nc.1 d hd
        exact ⟨c, x3, fun _ => x6⟩
      · exact ⟨0, by omega, fun z => absurd z hd⟩
    obtain ⟨c, c1, c2⟩ := cE
    obtain ⟨k1, k2⟩ := kk c c1 c2
    refine ⟨mc, mr, D, Ms, q, q2, r, r2, a1, a2, a3, CO_new hc ho ?_ ?_ ?_ ⟨?_, ?_, hD, ?_, ?_, hc.zd.2.2.2.2.2⟩ ?_ (fun a b x y => ?_) (fun b h => ?_) (fun b h => ?_) (fun b h => ?_) (NewC_mem nc hD b1 (fun a b x y => ?_) (fun a x y z => a4.2.1 a z) (fun a h => a5.2.1 a (by unfold qVr; omega)) c2 c1 k1 k2), FC_pC a4 (fun a z => by unfold qV at z; omega), FR_pR a5 (fun a z => by unfold qVr at z; omega)⟩
    · rw [a4.2.1 2 (by unfold qV; omega)]; exact hc.tb
    · rw [a4.2.1 2 (by unfold qV; omega), a5.2.1 388 (by unfold qVr; omega)]; exact hc.tt
    · unfold NK
      rw [a4.2.1 6 (by unfold qV; omega), a4.2.1 7 (by unfold qV; omega), a5.2.1 393 (by unfold qVr; omega), a5.2.1 394 (by unfold qVr; omega)]; exact hc.nk
    · rw [a4.1 _ _ (by unfold pC; omega)]; exact hc.zd.1
    · rw [a5.1 _ _ (by unfold pR; omega)]; exact hc.zd.2.1
    · rw [a4.1 _ _ (by unfold pC; omega)]; exact hc.zd.2.2.2.1
    · rw [a5.1 _ _ (by unfold pR; omega)]; exact hc.zd.2.2.2.2.1
    · rw [a4.1 _ _ (by unfold pC; omega)]; exact ho
    · rw [a4.1 _ _ (by unfold pC; omega)]
    · rw [a4.2.2.1 _ _ (by omega)]
    · rw [a5.1 _ _ (by unfold pR; omega)]
    · rw [a5.2.2.1 _ _ (by omega)]
    · rw [a4.1 _ _ (by unfold pC; omega)]
theorem outS_g {n : Nat} {M R : x_m} {e : Nat} {C : Option (Int32 × x_m)} {S : Option x_m} (h : outS n M R e C S ∨ outSF M R C S) : outS n M R e (C.bind fun r => if x_b1 r.1 = true then some (r.1, r.2) else none) S ∨ outSF M R (C.bind fun r => if x_b1 r.1 = true then some (r.1, r.2) else none) S := by
  rcases h with h | h
  · left
    obtain ⟨M', R', s', e', D', Ms', q', q2', r', r2', a1, a2, a3⟩ := h
    rw [bind_g C a1 rfl]
    exact ⟨M', R', s', e', D', Ms', q', q2', r', r2', a1, a2, a3⟩
  · right
    obtain ⟨mc, mr, D', Ms', q', q2', r', r2', a1, a2, a3⟩ := h
    rw [bind_g C a1 rfl]
    exact ⟨mc, mr, D', Ms', q', q2', r', r2', a1, a2, a3⟩
theorem ls_stmt {M R : x_m} {n D Ms q q2 r r2 e0 k s e : Nat} (hz : Zl M R n) (hc : CO M R D Ms q q2 r r2) (k1 : k ≠ 1) (k36 : k ≠ 36) (ht : TF n e0 k s e) :
    outS n M R e (stC k (ct M k s e)) (F_MD_statement (rt R k s e)) ∨ outSF M R (stC k (ct M k s e)) (F_MD_statement (rt R k s e)) := by
  obtain ⟨t1, t2, t3, t4, t5, t6, t7⟩ := ht
  have hop : ∃ op : Bool, M.1 4 4 = bI op ∧ R.1 387 2 = bI op := by
    rcases hc.opn with ⟨a, b, _⟩ | ⟨a, b, _⟩
    · exact ⟨false, a, b⟩
    · exact ⟨true, a, b⟩
  obtain ⟨op, o1, o2⟩ := hop
  unfold stC
  rw [st_eq t4 k1 k36 (Zl_5 hz) o2]
  by_cases k20 : k = 20
  · subst k20
    rw [if_pos rfl, if_pos (by omega), decide_eq_false (by omega)]
    cases op with
    | false =>
      right
      rw [if_pos rfl]
      unfold F_QG_readQuestion
      rw [ct_o _ _ _ _ _ (by omega), o1, if_pos (show bI false = 0 from rfl), F_LX_tellHere_eq, Option.bind_some, if_pos (show x_b1 0 = true from rfl)]
      exact out_tell hc _ _ (by decide)
    | true =>
      rw [if_neg (by decide), if_neg (by omega), if_neg (by omega), if_neg (by omega)]
      exact ls_stQ hz hc o1 t2
  · rw [if_neg k20, cs_eq t4 o1]
    by_cases kr : 17 ≤ k ∧ k ≤ 19
    · rw [if_pos kr, if_pos (show 17 ≤ k ∧ k ≤ 20 by omega), decide_eq_true k20]
      cases op with
      | true =>
        right
        rw [if_pos rfl, if_pos rfl]
        exact out_tell hc _ _ (by decide)
      | false =>
        rw [if_neg (show ¬ false = true by decide), if_neg (show ¬ true = false by decide)]
        by_cases a : k = 17
        · simp only [if_pos a]
          rw [bassoc]
          exact outS_g (ls_stD hz hc o1 t2)
        · by_cases b : k = 18
          · simp only [if_neg a, if_pos b]
            rw [bassoc]
            exact outS_g (ls_stM hz hc o1 t2)
          · simp only [if_neg a, if_neg b, if_pos (show k = 19 by omega)]
            rw [bassoc]
            exact outS_g (ls_stB hz hc o1 t2)
    · right
      rw [if_neg kr, if_neg (by omega)]
      exact out_tell hc _ _ (kUn_pos k)
