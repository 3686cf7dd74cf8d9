/-! the class's condition: its steps -/
theorem CI_ag {M M' : x_m} {p cc jc dp : Nat} (h : CI M p cc jc dp) (g : agM M M' p cc jc) (e : ∀ b, M'.1 p b = M.1 p b) : CI M' p cc jc dp :=
  ⟨(e 0).trans h.1, (e 3).trans h.2.1, (e 1).trans h.2.2.1, h.2.2.2.1, h.2.2.2.2.1, h.2.2.2.2.2.1, clo_ag h.2.2.2.2.2.2.1 g (Nat.le_refl _), fun y hy => by rw [g.2 y hy]; exact h.2.2.2.2.2.2.2 y hy⟩
theorem addComing_spec {M : x_m} {p cc jc dp k s e : Nat} (hp : p ≠ 3) (hI : CI M p cc jc dp) (hc : cc < 60) (nt : Bool) (hna : M.2.1 (p + 9) dp = bI nt) (ob : Option Nat) (hob : slt cc jc (M.2.1 (p + 8) dp) ob) (hj : ob ≠ none → jc < 59) :
    ∃ M' b' jc', F_CN_addComing p (ct M k s e) = some (ct M' k s e) ∧ CI M' p (cc + 1) jc' dp ∧ M'.2.1 (p + 8) dp = xI b' ∧ vld (cc + 1) jc' b' ∧ ¬ vld cc jc b' ∧ M'.2.1 (p + 7) dp = M.2.1 (p + 7) dp ∧ M'.2.1 (p + 9) dp = 0 ∧ lnK M M' p dp ∧ agM M M' p cc jc ∧ clo M' p cc jc ∧ jc' = jc + (if ob = none then 0 else 1) ∧ (∀ a, tvL M' p a jc' b' = anV (ob.map (tvL M p a jc)) (a cc != nt)) ∧ fr (pN p) (qN' p) M M' ∧ (ob = none → b' = cc) ∧ (ob ≠ none → b' = 60 + jc) := by
  have hI' := hI
  obtain ⟨c1, c2, c3, c4, c5, c6, c7, c8⟩ := hI
  unfold F_CN_addComing
  rw [xw_A1, ct_o _ _ _ _ _ hp, c1, xI_ix (by omega), if_pos (show decide (cc < 119) = true by simp; omega), xI_cl (by omega), nar_b (Or.inl rfl), xI_add1, ct_wA, ct_wS _ _ _ _ _ hp]
  have r2 : ∀ a i, (x_wS (x_wA M (p + 5) cc 0) p 0 (xI (cc + 1))).2.1 a i = if a = p + 5 ∧ i = cc then 0 else M.2.1 a i := fun a i => rfl
  have r1 : ∀ a b, (x_wS (x_wA M (p + 5) cc 0) p 0 (xI (cc + 1))).1 a b = if a = p ∧ b = 0 then xI (cc + 1) else M.1 a b := fun a b => rfl
  have f1 : fr (pN p) (qN' p) M (x_wS (x_wA M (p + 5) cc 0) p 0 (xI (cc + 1))) := fr_trans (fr_wA _ _ _ _ (by unfold qN'; omega)) (fr_wS _ _ _ _ rfl)
  generalize x_wS (x_wA M (p + 5) cc 0) p 0 (xI (cc + 1)) = M1 at *
  have ag : agM M M1 p cc jc := by
    refine ⟨fun j _ => ?_, fun y hy => ?_⟩
    · simp only [r2]
      refine ⟨?_, ?_, ?_⟩ <;> rw [if_neg (by omega)]
    · rw [r2, if_neg (by unfold vld at hy; omega)]
  have cl0 : clo M1 p cc jc := clo_ag c7 ag (Nat.le_refl _)
  have I1 : CI M1 p (cc + 1) jc dp := by
    refine ⟨by rw [r1, if_pos ⟨rfl, rfl⟩], by rw [r1, if_neg (by omega)]; exact c2, by rw [r1, if_neg (by omega)]; exact c3, by omega, c5, c6, fun j hj' => ?_, fun y hy => ?_⟩
    · obtain ⟨l, r, v1, v2, w1, w2, w3⟩ := cl0 j hj'
      exact ⟨l, r, vld_mono v1 (by omega) (Nat.le_refl _), vld_mono v2 (by omega) (Nat.le_refl _), w1, w2, w3⟩
    · by_cases ey : y = cc
      · rw [r2, if_pos ⟨rfl, ey⟩]; exact Or.inl rfl
      · have hy' : vld cc jc y := by unfold vld at *; omega
        rw [ag.2 y hy']; exact c8 y hy'
  have tcc : ∀ a, tvL M1 p a jc cc = a cc := by
    intro a
    rw [tv_le M1 p a (Nat.zero_le jc) (by omega)]
    show (a cc != decide (M1.2.1 (p + 5) cc = 1)) = _
    rw [r2, if_pos ⟨rfl, rfl⟩]
    cases a cc <;> rfl
  have tob : ∀ a, ob.map (tvL M1 p a jc) = ob.map (tvL M p a jc) := by
    intro a
    cases ob with
    | none => rfl
    | some b => exact congrArg some (tv_congr c4 c5 c7 ag a jc (Nat.le_refl _) b hob.2)
  obtain ⟨M', b', jc', a1, a2, a3, a4, a5, a6, a7, a8, a9, a10, a11, a12, a13, a14⟩ := attach_spec (M := M1) (k := k) (s := s) (e := e) (x := cc) (cc0 := cc) (jc0 := jc) hp I1 (by unfold vld; omega) (by unfold vld; omega) (by omega) (Nat.le_refl _) cl0 nt (by rw [r2, if_neg (by omega)]; exact hna) ob (by rw [r2, if_neg (by omega)]; exact hob) hj
  rw [a1]
  refine ⟨M', b', jc', rfl, a2, a3, a4, a5, by rw [a6, r2, if_neg (by omega)], a7, fun i hi => ?_, agM_trans ag a9 (Nat.le_refl _) (Nat.le_refl _), a10, a11, fun a => by rw [a12 a, tob a, tcc a], fr_trans f1 a13, a14⟩
  obtain ⟨z1, z2, z3⟩ := a8 i hi
  refine ⟨?_, ?_, ?_⟩
  · rw [z1, r2, if_neg (by omega)]
  · rw [z2, r2, if_neg (by omega)]
  · rw [z3, r2, if_neg (by omega)]
theorem negateNext_spec {M : x_m} {p cc jc dp k s e : Nat} (hp : p ≠ 3) (hI : CI M p cc jc dp) (nt : Bool) (hna : M.2.1 (p + 9) dp = bI nt) :
    F_CN_negateNext p (ct M k s e) = some (ct (x_wA M (p + 9) dp (bI (!nt))) k s e) := by
  obtain ⟨c1, c2, c3, c4, c5, c6, c7, c8⟩ := hI
  unfold F_CN_negateNext B_CN_negateNext_25
  rw [ct_o _ _ _ _ _ hp, c3, xI_ix (by omega), if_pos (show decide (dp < 41) = true by simp; omega), xI_cl (by omega), show (ct M k s e).2.1 = M.2.1 from rfl, hna]
  simp only [bI_0]
  cases nt
  · rw [if_pos rfl, if_pos (show decide (dp < 41) = true by simp; omega), nar_b (Or.inr rfl), ct_wA]; rfl
  · rw [if_neg (by decide), if_pos (show decide (dp < 41) = true by simp; omega), nar_b (Or.inl rfl), ct_wA]; rfl
/-- a new line, one deeper -/
def opM (M : x_m) (p dp : Nat) : x_m := x_wA (x_wA (x_wA (x_wS M p 1 (xI (dp + 1))) (p + 7) (dp + 1) (-1)) (p + 8) (dp + 1) (-1)) (p + 9) (dp + 1) 0
theorem openBracket_spec {M : x_m} {p cc jc dp k s e : Nat} (hp : p ≠ 3) (hI : CI M p cc jc dp) (hd : dp < 40) : F_CN_openBracket p (ct M k s e) = some (1, ct (opM M p dp) k s e) := by
  obtain ⟨c1, c2, c3, c4, c5, c6, c7, c8⟩ := hI
  have e1 : (x_wS M p 1 (xI (dp + 1))).1 p 1 = xI (dp + 1) := by
    show (if p = p ∧ 1 = 1 then _ else _) = _
    rw [if_pos ⟨rfl, rfl⟩]
  unfold F_CN_openBracket F_CN_clearLine
  rw [ct_o _ _ _ _ _ hp, c3, if_pos (by show xI dp < xI 40; rw [xI_lt (by omega) (by omega)]; omega), xI_add1, ct_wS _ _ _ _ _ hp]
  have e2 : (ct (x_wS M p 1 (xI (dp + 1))) k s e).1 p 1 = xI (dp + 1) := (ct_o _ _ _ _ _ hp).trans e1
  have e3 : x_ix (xI (dp + 1)) 41 = true := by rw [xI_ix (by omega)]; simp; omega
  simp only [xw_A1, e2, e3, xI_cl (show dp + 1 < 2147483648 by omega), if_true, nar_b (Or.inl rfl : (0 : Int32) = 0 ∨ (0 : Int32) = 1), Option.bind_some]
  rw [ct_wA, ct_wA, ct_wA]
  rfl
theorem openBracket_full {M : x_m} {p k s e : Nat} (hp : p ≠ 3) (h : M.1 p 1 = xI 40) : F_CN_openBracket p (ct M k s e) = some (0, ct M k s e) := by
  unfold F_CN_openBracket
  rw [ct_o _ _ _ _ _ hp, h, if_neg (by decide)]
theorem opM_2 (M : x_m) (p dp a i : Nat) : (opM M p dp).2.1 a i = if a = p + 9 ∧ i = dp + 1 then 0 else if a = p + 8 ∧ i = dp + 1 then -1 else if a = p + 7 ∧ i = dp + 1 then -1 else M.2.1 a i := rfl
theorem opM_1 (M : x_m) (p dp a b : Nat) : (opM M p dp).1 a b = if a = p ∧ b = 1 then xI (dp + 1) else M.1 a b := rfl
theorem opM_spec {M : x_m} {p cc jc dp : Nat} (hI : CI M p cc jc dp) (hd : dp < 40) : CI (opM M p dp) p cc jc (dp + 1) ∧ agM M (opM M p dp) p cc jc ∧ lnK M (opM M p dp) p (dp + 1) ∧ fr (pN p) (qN' p) M (opM M p dp) ∧ (opM M p dp).2.1 (p + 7) (dp + 1) = -1 ∧ (opM M p dp).2.1 (p + 8) (dp + 1) = -1 ∧ (opM M p dp).2.1 (p + 9) (dp + 1) = 0 := by
  obtain ⟨c1, c2, c3, c4, c5, c6, c7, c8⟩ := hI
  have ag : agM M (opM M p dp) p cc jc := by
    refine ⟨fun j _ => ?_, fun y hy => ?_⟩
    · simp only [opM_2]
      refine ⟨?_, ?_, ?_⟩ <;> rw [if_neg (by omega), if_neg (by omega), if_neg (by omega)]
    · rw [opM_2, if_neg (by omega), if_neg (by omega), if_neg (by omega)]
  refine ⟨⟨by rw [opM_1, if_neg (by omega)]; exact c1, by rw [opM_1, if_neg (by omega)]; exact c2, by rw [opM_1, if_pos ⟨rfl, rfl⟩], c4, c5, by omega, clo_ag c7 ag (Nat.le_refl _), fun y hy => by rw [ag.2 y hy]; exact c8 y hy⟩, ag, fun i hi => ?_, ?_, ?_, ?_, ?_⟩
  · simp only [opM_2]
    refine ⟨?_, ?_, ?_⟩ <;> rw [if_neg (by omega), if_neg (by omega), if_neg (by omega)]
  · unfold opM
    exact fr_trans (fr_wS _ _ _ _ rfl) (fr_trans (fr_wA _ _ _ _ (by unfold qN'; omega)) (fr_trans (fr_wA _ _ _ _ (by unfold qN'; omega)) (fr_wA _ _ _ _ (by unfold qN'; omega))))
  · rw [opM_2, if_neg (by omega), if_neg (by omega), if_pos ⟨rfl, rfl⟩]
  · rw [opM_2, if_neg (by omega), if_pos ⟨rfl, rfl⟩]
  · rw [opM_2, if_pos ⟨rfl, rfl⟩]
def orV (o : Option Bool) (g : Bool) : Bool := match o with
  | none => g
  | some x => x || g
/-- a line's end: one part for all that waits there -/
theorem endLine_spec {M : x_m} {p cc jc dp cc0 jc0 b k s e : Nat} (hp : p ≠ 3) (hI : CI M p cc jc dp) (hcc : cc0 ≤ cc) (hjc : jc0 ≤ jc) (oo : Option Nat) (hoo : slt cc jc (M.2.1 (p + 7) dp) oo) (hb : M.2.1 (p + 8) dp = xI b) (hv : vld cc jc b) (hnb : ¬ vld cc0 jc0 b) (hj : oo ≠ none → jc < 59) :
    ∃ M' z jc', F_CN_endLine p (ct M k s e) = some (xI z, ct M' k s e) ∧ CI M' p cc jc' dp ∧ vld cc jc' z ∧ ¬ vld cc0 jc0 z ∧ agM M M' p cc jc ∧ jc' = jc + (if oo = none then 0 else 1) ∧ (∀ a, tvL M' p a jc' z = orV (oo.map (tvL M p a jc)) (tvL M p a jc b)) ∧ (∀ a i, p + 7 ≤ a → M'.2.1 a i = M.2.1 a i) ∧ fr (pN p) (qN' p) M M' ∧ z = (if oo = none then b else 60 + jc) := by
  have hI' := hI
  obtain ⟨c1, c2, c3, c4, c5, c6, c7, c8⟩ := hI
  unfold F_CN_endLine
  rw [ct_o _ _ _ _ _ hp, c3, xI_ix (by omega), if_pos (show decide (dp < 41) = true by simp; omega), if_pos (show decide (dp < 41) = true by simp; omega), xI_cl (by omega), show (ct M k s e).2.1 = M.2.1 from rfl, hb]
  cases oo with
  | none =>
    have : M.2.1 (p + 7) dp = -1 := hoo
    rw [this, F_CN_join_none]
    exact ⟨M, b, jc, rfl, hI', hv, hnb, agM_refl _ _ _ _, rfl, fun a => rfl, fun _ _ _ => rfl, fr_refl _ _ _, rfl⟩
  | some o =>
    obtain ⟨h1, h2⟩ := hoo
    have hj' := hj (by simp)
    have ob : o < 119 := by unfold vld at h2; omega
    rw [h1, F_CN_join_eq (m := ct M k s e) _ _ ((ct_o _ _ _ _ _ hp).trans c2) hj' ob (Or.inl rfl), Option.bind_some]
    simp only []
    rw [jnM_ct _ _ _ _ hp]
    obtain ⟨j1, j2, j3, j4, j5⟩ := join_spec hI' hj' h2 hv 0 (Or.inl rfl)
    exact ⟨_, 60 + jc, jc + 1, rfl, j1, j3, by unfold vld; omega, j2, by simp, fun a => by rw [j4 a, if_pos rfl]; rfl, j5, fr_jnM _ _ _ _ _ _, by simp⟩
theorem tvL_2 {M M' : x_m} (h : M'.2.1 = M.2.1) (p : Nat) (a : Nat → Bool) : ∀ j, tvL M' p a j = tvL M p a j := by
  intro j
  induction j with
  | zero => funext x; show (a x != decide (M'.2.1 (p + 5) x = 1)) = _; rw [h]; rfl
  | succ j ih => funext x; rw [tvL, tvL, h, ih]
theorem closeBracket_spec {M : x_m} {p cc jc dp cc0 jc0 b k s e : Nat} (hp : p ≠ 3) (hI : CI M p cc jc (dp + 1)) (hcc : cc0 ≤ cc) (hjc : jc0 ≤ jc) (h0 : clo M p cc0 jc0) (oo : Option Nat) (hoo : slt cc jc (M.2.1 (p + 7) (dp + 1)) oo) (hb : M.2.1 (p + 8) (dp + 1) = xI b) (hv : vld cc jc b) (hnb : ¬ vld cc0 jc0 b) (hj : oo ≠ none → jc < 59)
    (nt : Bool) (hna : M.2.1 (p + 9) dp = bI nt) (ob : Option Nat) (hob : slt cc0 jc0 (M.2.1 (p + 8) dp) ob) (hj2 : ob ≠ none → jc + (if oo = none then 0 else 1) < 59) :
    ∃ M' b' jc', F_CN_closeBracket p (ct M k s e) = some (ct M' k s e) ∧ CI M' p cc jc' dp ∧ M'.2.1 (p + 8) dp = xI b' ∧ vld cc jc' b' ∧ ¬ vld cc0 jc0 b' ∧ M'.2.1 (p + 7) dp = M.2.1 (p + 7) dp ∧ M'.2.1 (p + 9) dp = 0 ∧ lnK M M' p dp ∧ agM M M' p cc0 jc0 ∧ clo M' p cc0 jc0 ∧ jc' = jc + (if oo = none then 0 else 1) + (if ob = none then 0 else 1) ∧ (∀ a, tvL M' p a jc' b' = anV (ob.map (tvL M p a jc0)) (orV (oo.map (tvL M p a jc)) (tvL M p a jc b) != nt)) ∧ fr (pN p) (qN' p) M M' ∧ (ob = none → b' = (if oo = none then b else 60 + jc)) ∧ (ob ≠ none → b' = 60 + (jc + (if oo = none then 0 else 1))) := by
  have d40 := hI.2.2.2.2.2.1
  obtain ⟨M1, z, j1, e1, e2, e3, e4, e5, e6, e7, e8, e9, e10⟩ := endLine_spec (k := k) (s := s) (e := e) hp hI hcc hjc oo hoo hb hv hnb hj
  unfold F_CN_closeBracket B_CN_closeBracket_27
  rw [ct_o _ _ _ _ _ hp, hI.2.2.1, if_neg (by show ¬ (xI (dp + 1) ≤ xI 0); rw [xI_le (by omega) (by omega)]; omega), e1, Option.bind_some]
  simp only []
  rw [ct_o _ _ _ _ _ hp, e2.2.2.1, show xI (dp + 1) - 1 = xI dp from by rw [show (1 : Int32) = xI 1 from rfl, xI_sub (by omega)]; rfl, ct_wS _ _ _ _ _ hp]
  have r1 : ∀ a b, (x_wS M1 p 1 (xI dp)).1 a b = if a = p ∧ b = 1 then xI dp else M1.1 a b := fun a b => rfl
  have f1 : fr (pN p) (qN' p) M1 (x_wS M1 p 1 (xI dp)) := fr_wS _ _ _ _ rfl
  have I1 : CI (x_wS M1 p 1 (xI dp)) p cc j1 dp := ⟨by rw [r1, if_neg (by omega)]; exact e2.1, by rw [r1, if_neg (by omega)]; exact e2.2.1, by rw [r1, if_pos ⟨rfl, rfl⟩], e2.2.2.2.1, e2.2.2.2.2.1, by omega, e2.2.2.2.2.2.2.1, e2.2.2.2.2.2.2.2⟩
  have c4 := hI.2.2.2.1
  have c5 := hI.2.2.2.2.1
  obtain ⟨M', b', jc', a1, a2, a3, a4, a5, a6, a7, a8, a9, a10, a11, a12, a13, a14⟩ := attach_spec (M := x_wS M1 p 1 (xI dp)) (k := k) (s := s) (e := e) (x := z) (cc0 := cc0) (jc0 := jc0) hp I1 e3 e4 hcc (by omega) (clo_ag h0 e5 hjc) nt (by show M1.2.1 (p + 9) dp = _; rw [e8 _ _ (by omega)]; exact hna) ob (by show slt cc0 jc0 (M1.2.1 (p + 8) dp) ob; rw [e8 _ _ (by omega)]; exact hob) (fun h => by rw [e6]; exact hj2 h)
  rw [a1]
  have tob : ∀ a, ob.map (tvL M1 p a jc0) = ob.map (tvL M p a jc0) := by
    intro a
    cases ob with
    | none => rfl
    | some b => exact congrArg some (tv_congr (by omega) (by omega) h0 (agM_mono e5 hcc hjc) a jc0 (Nat.le_refl _) b hob.2)
  refine ⟨M', b', jc', rfl, a2, a3, a4, a5, ?_, a7, fun i hi => ?_, agM_trans (agM_mono e5 hcc hjc) a9 (Nat.le_refl _) (Nat.le_refl _), a10, by rw [a11, e6], fun a => ?_, fr_trans e9 (fr_trans f1 a13), fun h => by rw [a14.1 h, e10], fun h => by rw [a14.2 h, e6]⟩
  · rw [a6]; exact e8 _ _ (by omega)
  · obtain ⟨z1, z2, z3⟩ := a8 i hi
    exact ⟨z1.trans (e8 _ _ (by omega)), z2.trans (e8 _ _ (by omega)), z3.trans (e8 _ _ (by omega))⟩
  · rw [a12 a]
    rw [tvL_2 (show (x_wS M1 p 1 (xI dp)).2.1 = M1.2.1 from rfl), tvL_2 (show (x_wS M1 p 1 (xI dp)).2.1 = M1.2.1 from rfl), tob a, e7 a]
theorem startAlternative_spec {M : x_m} {p cc jc dp cc0 jc0 b k s e : Nat} (hp : p ≠ 3) (hI : CI M p cc jc dp) (hcc : cc0 ≤ cc) (hjc : jc0 ≤ jc) (h0 : clo M p cc0 jc0) (oo : Option Nat) (hoo : slt cc jc (M.2.1 (p + 7) dp) oo) (hb : M.2.1 (p + 8) dp = xI b) (hv : vld cc jc b) (hnb : ¬ vld cc0 jc0 b) (hj : oo ≠ none → jc < 59) :
    ∃ M' z jc', F_CN_startAlternative p (ct M k s e) = some (ct M' k s e) ∧ CI M' p cc jc' dp ∧ M'.2.1 (p + 7) dp = xI z ∧ vld cc jc' z ∧ ¬ vld cc0 jc0 z ∧ M'.2.1 (p + 8) dp = -1 ∧ M'.2.1 (p + 9) dp = M.2.1 (p + 9) dp ∧ lnK M M' p dp ∧ agM M M' p cc jc ∧ clo M' p cc0 jc0 ∧ jc' = jc + (if oo = none then 0 else 1) ∧ (∀ a, tvL M' p a jc' z = orV (oo.map (tvL M p a jc)) (tvL M p a jc b)) ∧ fr (pN p) (qN' p) M M' := by
  have d40 := hI.2.2.2.2.2.1
  obtain ⟨M1, z, j1, e1, e2, e3, e4, e5, e6, e7, e8, e9, e10⟩ := endLine_spec (k := k) (s := s) (e := e) hp hI hcc hjc oo hoo hb hv hnb hj
  unfold F_CN_startAlternative
  rw [e1, Option.bind_some]
  simp only [xw_A1]
  have cM : (ct M k s e).1 p 1 = xI dp := (ct_o _ _ _ _ _ hp).trans hI.2.2.1
  have cM1 : (ct M1 k s e).1 p 1 = xI dp := (ct_o _ _ _ _ _ hp).trans e2.2.2.1
  have ix : x_ix (xI dp) 41 = true := by rw [xI_ix (by omega)]; simp; omega
  simp only [cM, cM1, ix, if_true, xI_cl (show dp < 2147483648 by omega)]
  rw [ct_wA, ct_wA]
  have r2 : ∀ a i, (x_wA (x_wA M1 (p + 7) dp (xI z)) (p + 8) dp (-1)).2.1 a i = if a = p + 8 ∧ i = dp then -1 else if a = p + 7 ∧ i = dp then xI z else M1.2.1 a i := fun a i => rfl
  have ag : agM M1 (x_wA (x_wA M1 (p + 7) dp (xI z)) (p + 8) dp (-1)) p cc j1 := by
    refine ⟨fun j _ => ?_, fun y _ => ?_⟩
    · simp only [r2]
      refine ⟨?_, ?_, ?_⟩ <;> rw [if_neg (by omega), if_neg (by omega)]
    · rw [r2, if_neg (by omega), if_neg (by omega)]
  refine ⟨x_wA (x_wA M1 (p + 7) dp (xI z)) (p + 8) dp (-1), z, j1, rfl, CI_ag e2 ag (fun _ => rfl), ?_, e3, e4, ?_, ?_, fun i hi => ?_, agM_trans e5 ag (Nat.le_refl _) (by omega), clo_ag (clo_ag h0 e5 hjc) ag (by omega), e6, fun a => ?_, fr_trans e9 (fr_trans (fr_wA _ _ _ _ (by unfold qN'; omega)) (fr_wA _ _ _ _ (by unfold qN'; omega)))⟩
  · rw [r2, if_neg (by omega), if_pos ⟨rfl, rfl⟩]
  · rw [r2, if_pos ⟨rfl, rfl⟩]
  · rw [r2, if_neg (by omega), if_neg (by omega)]; exact e8 _ _ (by omega)
  · simp only [r2]
    refine ⟨?_, ?_, ?_⟩ <;> rw [if_neg (by omega), if_neg (by omega)] <;> exact e8 _ _ (by omega)
  · rw [tv_congr e2.2.2.2.1 e2.2.2.2.2.1 e2.2.2.2.2.2.2.1 ag a j1 (Nat.le_refl _) z e3, e7 a]
/-! the reference's signs -/
def stp (s : Int32) (a : Nat → Bool) (st : List Bool) : Option (List Bool) :=
  if 0 ≤ s then (if st.length < 60 then some (a s.toNatClampNeg :: st) else none)
  else if s = -1 then (match st with | x :: r => some ((!x) :: r) | [] => none)
  else if s = -2 then (match st with | x :: y :: r => some ((y && x) :: r) | _ => none)
  else (match st with | x :: y :: r => some ((y || x) :: r) | _ => none)
def ev (g : Nat → Int32) (a : Nat → Bool) : Nat → Nat → List Bool → Option (List Bool)
  | 0, _, st => some st
  | k + 1, i, st => (stp (g i) a st).bind fun st' => ev g a k (i + 1) st'
theorem ev_add (g : Nat → Int32) (a : Nat → Bool) : ∀ k1 k2 i st, ev g a (k1 + k2) i st = (ev g a k1 i st).bind fun st' => ev g a k2 (i + k1) st'
  | 0, k2, i, st => by rw [Nat.zero_add]; rfl
  | k1 + 1, k2, i, st => by
    rw [show k1 + 1 + k2 = (k1 + k2) + 1 by omega, ev, ev]
    cases stp (g i) a st with
    | none => rfl
    | some st' =>
      show ev g a (k1 + k2) (i + 1) st' = (ev g a k1 (i + 1) st').bind _
      rw [ev_add g a k1 k2 (i + 1) st', show i + 1 + k1 = i + (k1 + 1) by omega]
theorem ev_congr (g g' : Nat → Int32) (a : Nat → Bool) (k : Nat) : ∀ i st, (∀ j, i ≤ j → j < i + k → g j = g' j) → ev g a k i st = ev g' a k i st := by
  induction k with
  | zero => intro i st _; rfl
  | succ k ih =>
    intro i st h
    rw [ev, ev, h i (Nat.le_refl i) (by omega)]
    congr 1
    funext st'
    exact ih (i + 1) st' (fun j h1 h2 => h j (by omega) (by omega))
/-- the signs from s0 to s1, of the comparisons from c0 to c1, say G -/
def Seg (g : Nat → Int32) (s0 s1 c0 c1 : Nat) (G : (Nat → Bool) → Bool) : Prop := s0 ≤ s1 ∧ c0 < c1 ∧ (∀ j, s0 ≤ j → j < s1 → 0 ≤ g j → ∃ n, n < c1 ∧ g j = xI n) ∧ ∀ a st, st.length + (c1 - c0) ≤ 60 → ev g a (s1 - s0) s0 st = some (G a :: st)
theorem Seg_congr {g g' : Nat → Int32} {s0 s1 c0 c1 : Nat} {G : (Nat → Bool) → Bool} (h : Seg g s0 s1 c0 c1 G) (e : ∀ j, s0 ≤ j → j < s1 → g' j = g j) : Seg g' s0 s1 c0 c1 G :=
  ⟨h.1, h.2.1, fun j x y z => by rw [e j x y] at z ⊢; exact h.2.2.1 j x y z, fun a st hs => by rw [ev_congr g' g a (s1 - s0) s0 st (fun j h1 h2 => e j h1 (by have := h.1; omega))]; exact h.2.2.2 a st hs⟩
theorem Seg_cmp {g : Nat → Int32} {s c : Nat} (h : g s = xI c) (hc : c < 60) : Seg g s (s + 1) c (c + 1) (fun a => a c) := by
  refine ⟨by omega, by omega, fun j x y _ => ⟨c, by omega, by rw [show j = s by omega]; exact h⟩, fun a st hs => ?_⟩
  rw [show s + 1 - s = 0 + 1 by omega, ev, h]
  unfold stp
  rw [if_pos (xI_nonneg (by omega)), if_pos (by omega), xI_cl (by omega)]
  rfl
theorem Seg_not {g : Nat → Int32} {s0 s1 c0 c1 : Nat} {G : (Nat → Bool) → Bool} (h : Seg g s0 s1 c0 c1 G) (e : g s1 = -1) : Seg g s0 (s1 + 1) c0 c1 (fun a => !G a) := by
  refine ⟨by have := h.1; omega, h.2.1, fun j x y z => ?_, fun a st hs => ?_⟩
  · by_cases ej : j = s1
    · rw [ej, e] at z; exact absurd z (by decide)
    · exact h.2.2.1 j x (by omega) z
  rw [show s1 + 1 - s0 = (s1 - s0) + 1 by have := h.1; omega, ev_add, h.2.2.2 a st hs, Option.bind_some, show s0 + (s1 - s0) = s1 by have := h.1; omega, ev, e]
  rfl
theorem Seg_and {g : Nat → Int32} {s0 s1 s2 c0 c1 c2 : Nat} {G H : (Nat → Bool) → Bool} (h : Seg g s0 s1 c0 c1 G) (h' : Seg g s1 s2 c1 c2 H) (e : g s2 = -2) : Seg g s0 (s2 + 1) c0 c2 (fun a => G a && H a) := by
  have h1 := h.1; have h2 := h'.1; have h3 := h.2.1; have h4 := h'.2.1
  refine ⟨by omega, by omega, fun j x y z => ?_, fun a st hs => ?_⟩
  · by_cases ej : j = s2
    · rw [ej, e] at z; exact absurd z (by decide)
    · rcases Nat.lt_or_ge j s1 with u | u
      · obtain ⟨n, n1, n2⟩ := h.2.2.1 j x u z
        exact ⟨n, by omega, n2⟩
      · exact h'.2.2.1 j u (by omega) z
  rw [show s2 + 1 - s0 = (s1 - s0) + ((s2 - s1) + 1) by omega, ev_add, h.2.2.2 a st (by omega), Option.bind_some, show s0 + (s1 - s0) = s1 by omega, ev_add, h'.2.2.2 a (G a :: st) (by rw [List.length_cons]; omega), Option.bind_some, show s1 + (s2 - s1) = s2 by omega, ev, e]
  rfl
theorem Seg_or {g : Nat → Int32} {s0 s1 s2 c0 c1 c2 : Nat} {G H : (Nat → Bool) → Bool} (h : Seg g s0 s1 c0 c1 G) (h' : Seg g s1 s2 c1 c2 H) (e : g s2 = -3) : Seg g s0 (s2 + 1) c0 c2 (fun a => G a || H a) := by
  have h1 := h.1; have h2 := h'.1; have h3 := h.2.1; have h4 := h'.2.1
  refine ⟨by omega, by omega, fun j x y z => ?_, fun a st hs => ?_⟩
  · by_cases ej : j = s2
    · rw [ej, e] at z; exact absurd z (by decide)
    · rcases Nat.lt_or_ge j s1 with u | u
      · obtain ⟨n, n1, n2⟩ := h.2.2.1 j x u z
        exact ⟨n, by omega, n2⟩
      · exact h'.2.2.1 j u (by omega) z
  rw [show s2 + 1 - s0 = (s1 - s0) + ((s2 - s1) + 1) by omega, ev_add, h.2.2.2 a st (by omega), Option.bind_some, show s0 + (s1 - s0) = s1 by omega, ev_add, h'.2.2.2 a (G a :: st) (by rw [List.length_cons]; omega), Option.bind_some, show s1 + (s2 - s1) = s2 by omega, ev, e]
  rfl
