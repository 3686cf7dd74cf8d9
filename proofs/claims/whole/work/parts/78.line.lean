/-! the class's lines: parts put to them -/
def slt (cc jc : Nat) (v : Int32) (o : Option Nat) : Prop := match o with
  | none => v = -1
  | some b => v = xI b ∧ vld cc jc b
theorem clo_ag {M M' : x_m} {p cc jc cc' jc' : Nat} (h : clo M p cc jc) (g : agM M M' p cc' jc') (hj : jc ≤ jc') : clo M' p cc jc := by
  intro j hj'
  obtain ⟨l, r, v1, v2, w1, w2, w3⟩ := h j hj'
  obtain ⟨y1, y2, y3⟩ := g.1 j (by omega)
  exact ⟨l, r, v1, v2, y1.trans w1, y2.trans w2, by rw [y3]; exact w3⟩
/-- not ahead: the part is turned round -/
theorem flip_spec {M : x_m} {p cc jc dp cc0 jc0 x k s e : Nat} (hp : p ≠ 3) (hI : CI M p cc jc dp) (hx : vld cc jc x) (hn : ¬ vld cc0 jc0 x) (hcc : cc0 ≤ cc) (hjc : jc0 ≤ jc) (nt : Bool) (hna : M.2.1 (p + 9) dp = bI nt) :
    ∃ M1, F_CN_attach p (xI x) (ct M k s e) = B_CN_attach_42 p (xI x) (ct M1 k s e) ∧ CI M1 p cc jc dp ∧ agM M M1 p cc0 jc0 ∧ (∀ a, tvL M1 p a jc x = (tvL M p a jc x != nt)) ∧ M1.2.1 (p + 9) dp = 0 ∧ (∀ i, M1.2.1 (p + 7) i = M.2.1 (p + 7) i ∧ M1.2.1 (p + 8) i = M.2.1 (p + 8) i) ∧ lnK M M1 p dp ∧ fr (pN p) (qN' p) M M1 := by
  have hI' := hI
  obtain ⟨c1, c2, c3, c4, c5, c6, c7, c8⟩ := hI
  have xb : x < 119 := by unfold vld at hx; omega
  unfold F_CN_attach
  rw [ct_o _ _ _ _ _ hp, c3, xI_ix (by omega), if_pos (show decide (dp < 41) = true by simp; omega), xI_cl (by omega), show (ct M k s e).2.1 = M.2.1 from rfl, hna]
  simp only [bI_0]
  cases nt
  · rw [if_pos rfl]
    refine ⟨M, rfl, hI', agM_refl _ _ _ _, fun a => ?_, hna, fun i => ⟨rfl, rfl⟩, lnK_refl _ _ _, fr_refl _ _ _⟩
    cases tvL M p a jc x <;> rfl
  · rw [if_neg (by decide), xI_ix (by omega), if_pos (show decide (x < 119) = true by simp; omega), xI_cl (by omega)]
    have step : ∀ v : Int32, (v = 0 ∨ v = 1) → decide (v = 1) = !decide (M.2.1 (p + 5) x = 1) → ∃ M1, B_CN_attach_31 p (xI x) v (xI x) (ct M k s e) = B_CN_attach_42 p (xI x) (ct M1 k s e) ∧ CI M1 p cc jc dp ∧ agM M M1 p cc0 jc0 ∧ (∀ a, tvL M1 p a jc x = (tvL M p a jc x != true)) ∧ M1.2.1 (p + 9) dp = 0 ∧ (∀ i, M1.2.1 (p + 7) i = M.2.1 (p + 7) i ∧ M1.2.1 (p + 8) i = M.2.1 (p + 8) i) ∧ lnK M M1 p dp ∧ fr (pN p) (qN' p) M M1 := by
      intro v hv hf
      unfold B_CN_attach_31
      rw [xI_ix (by omega), if_pos (show decide (x < 119) = true by simp; omega), xI_cl (by omega), nar_b hv, xw_A1, ct_o _ _ _ _ _ hp, c3, xI_ix (by omega), if_pos (show decide (dp < 41) = true by simp; omega), xI_cl (by omega), nar_b (Or.inl rfl), ct_wA, ct_wA]
      have r2 : ∀ a i, (x_wA (x_wA M (p + 5) x v) (p + 9) dp 0).2.1 a i = if a = p + 9 ∧ i = dp then 0 else if a = p + 5 ∧ i = x then v else M.2.1 a i := fun a i => rfl
      have h5 : ∀ y, y ≠ x → (x_wA (x_wA M (p + 5) x v) (p + 9) dp 0).2.1 (p + 5) y = M.2.1 (p + 5) y := by
        intro y hy
        rw [r2, if_neg (by omega), if_neg (by omega)]
      have h5x : (x_wA (x_wA M (p + 5) x v) (p + 9) dp 0).2.1 (p + 5) x = v := by
        rw [r2, if_neg (by omega), if_pos ⟨rfl, rfl⟩]
      have hj : ∀ j, j < jc → (x_wA (x_wA M (p + 5) x v) (p + 9) dp 0).2.1 (p + 2) j = M.2.1 (p + 2) j ∧ (x_wA (x_wA M (p + 5) x v) (p + 9) dp 0).2.1 (p + 3) j = M.2.1 (p + 3) j ∧ (x_wA (x_wA M (p + 5) x v) (p + 9) dp 0).2.1 (p + 4) j = M.2.1 (p + 4) j := by
        intro j _
        simp only [r2]
        refine ⟨?_, ?_, ?_⟩ <;> rw [if_neg (by omega), if_neg (by omega)]
      refine ⟨x_wA (x_wA M (p + 5) x v) (p + 9) dp 0, rfl, ⟨c1, c2, c3, c4, c5, c6, fun j hj' => ?_, fun y hy => ?_⟩, ⟨fun j hj' => hj j (by omega), fun y hy => h5 y (fun z => hn (z ▸ hy))⟩, fun a => ?_, ?_, fun i => ?_, fun i hi => ?_, fr_trans (fr_wA _ _ _ _ (by unfold qN'; omega)) (fr_wA _ _ _ _ (by unfold qN'; omega))⟩
      · obtain ⟨l, r, v1, v2, w1, w2, w3⟩ := c7 j hj'
        obtain ⟨y1, y2, y3⟩ := hj j hj'
        exact ⟨l, r, v1, v2, y1.trans w1, y2.trans w2, by rw [y3]; exact w3⟩
      · by_cases ey : y = x
        · rw [ey, h5x]; exact hv
        · rw [h5 y ey]; exact c8 y hy
      · rw [tv_flip c4 c5 c7 hx hj h5 (by rw [h5x]; exact hf) a]
        cases tvL M p a jc x <;> rfl
      · rw [r2, if_pos ⟨rfl, rfl⟩]
      · simp only [r2]
        refine ⟨?_, ?_⟩ <;> rw [if_neg (by omega), if_neg (by omega)]
      · simp only [r2]
        refine ⟨?_, ?_, ?_⟩ <;> rw [if_neg (by omega), if_neg (by omega)]
    rcases c8 x hx with z | z
    · rw [z, if_pos rfl]
      exact step 1 (Or.inr rfl) (by rw [z]; rfl)
    · rw [z, if_neg (by decide)]
      exact step 0 (Or.inl rfl) (by rw [z]; rfl)
theorem attach_spec {M : x_m} {p cc jc dp cc0 jc0 x k s e : Nat} (hp : p ≠ 3) (hI : CI M p cc jc dp) (hx : vld cc jc x) (hn : ¬ vld cc0 jc0 x) (hcc : cc0 ≤ cc) (hjc : jc0 ≤ jc) (h0 : clo M p cc0 jc0) (nt : Bool) (hna : M.2.1 (p + 9) dp = bI nt) (ob : Option Nat) (hob : slt cc0 jc0 (M.2.1 (p + 8) dp) ob) (hj : ob ≠ none → jc < 59) :
    ∃ M' b' jc', F_CN_attach p (xI x) (ct M k s e) = some (ct M' k s e) ∧ CI M' p cc jc' dp ∧ M'.2.1 (p + 8) dp = xI b' ∧ vld cc jc' b' ∧ ¬ vld cc0 jc0 b' ∧ M'.2.1 (p + 7) dp = M.2.1 (p + 7) dp ∧ M'.2.1 (p + 9) dp = 0 ∧ lnK M M' p dp ∧ agM M M' p cc0 jc0 ∧ clo M' p cc0 jc0 ∧ jc' = jc + (if ob = none then 0 else 1) ∧ (∀ a, tvL M' p a jc' b' = anV (ob.map (tvL M p a jc0)) (tvL M p a jc x != nt)) ∧ fr (pN p) (qN' p) M M' ∧ (ob = none → b' = x) ∧ (ob ≠ none → b' = 60 + jc) := by
  obtain ⟨M1, f1, f2, f3, f4, f5, f6, f7, f8⟩ := flip_spec (k := k) (s := s) (e := e) hp hI hx hn hcc hjc nt hna
  have xb : x < 119 := by unfold vld at hx; have := hI.2.2.2.1; have := hI.2.2.2.2.1; omega
  have dpb : dp ≤ 40 := hI.2.2.2.2.2.1
  rw [f1]
  unfold B_CN_attach_42
  rw [ct_o _ _ _ _ _ hp, f2.2.2.1, xI_ix (by omega), if_pos (show decide (dp < 41) = true by simp; omega), xI_cl (by omega), show (ct M1 k s e).2.1 = M1.2.1 from rfl, (f6 dp).2]
  cases ob with
  | none =>
    have hob' : M.2.1 (p + 8) dp = -1 := hob
    rw [hob', F_CN_join_none, Option.bind_some]
    simp only []
    rw [if_pos (show decide (dp < 41) = true by simp; omega), ct_wA]
    have r2 : ∀ a i, (x_wA M1 (p + 8) dp (xI x)).2.1 a i = if a = p + 8 ∧ i = dp then xI x else M1.2.1 a i := fun a i => rfl
    have ag : agM M1 (x_wA M1 (p + 8) dp (xI x)) p cc jc := by
      refine ⟨fun j _ => ?_, fun y _ => ?_⟩
      · simp only [r2]
        refine ⟨?_, ?_, ?_⟩ <;> rw [if_neg (by omega)]
      · rw [r2, if_neg (by omega)]
    refine ⟨x_wA M1 (p + 8) dp (xI x), x, jc, rfl, ⟨f2.1, f2.2.1, f2.2.2.1, f2.2.2.2.1, f2.2.2.2.2.1, dpb, clo_ag f2.2.2.2.2.2.2.1 ag (Nat.le_refl _), fun y hy => by rw [ag.2 y hy]; exact f2.2.2.2.2.2.2.2 y hy⟩, by rw [r2, if_pos ⟨rfl, rfl⟩], hx, hn, by rw [r2, if_neg (by omega)]; exact (f6 dp).1, by rw [r2, if_neg (by omega)]; exact f5, fun i hi => ?_, agM_trans f3 ag hcc hjc, ?_, rfl, fun a => ?_, fr_trans f8 (fr_wA _ _ _ _ (by unfold qN'; omega)), fun _ => rfl, fun h => absurd rfl h⟩
    · simp only [r2]
      obtain ⟨z1, z2, z3⟩ := f7 i hi
      refine ⟨?_, ?_, ?_⟩ <;> rw [if_neg (by omega)] <;> assumption
    · exact clo_ag (clo_ag h0 f3 (Nat.le_refl _)) ag hjc
    · rw [tv_congr f2.2.2.2.1 f2.2.2.2.2.1 f2.2.2.2.2.2.2.1 ag a jc (Nat.le_refl _) x hx, f4 a]
      rfl
  | some b0 =>
    obtain ⟨hb1, hb2⟩ := hob
    have hj' := hj (by simp)
    have b0b : b0 < 119 := by unfold vld at hb2; have := hI.2.2.2.1; have := hI.2.2.2.2.1; omega
    rw [hb1, F_CN_join_eq (m := ct M1 k s e) _ _ ((ct_o _ _ _ _ _ hp).trans f2.2.1) hj' b0b (Or.inr rfl), Option.bind_some]
    simp only []
    rw [if_pos (show decide (dp < 41) = true by simp; omega), jnM_ct _ _ _ _ hp, ct_wA]
    obtain ⟨j1, j2, j3, j4, j5⟩ := join_spec f2 hj' (vld_mono hb2 hcc hjc) hx 1 (Or.inr rfl)
    have fj := fr_jnM M1 p jc (xI b0) (xI x) 1
    generalize jnM M1 p jc (xI b0) (xI x) 1 = M2 at *
    have r2 : ∀ a i, (x_wA M2 (p + 8) dp (xI (60 + jc))).2.1 a i = if a = p + 8 ∧ i = dp then xI (60 + jc) else M2.2.1 a i := fun a i => rfl
    have ag : agM M2 (x_wA M2 (p + 8) dp (xI (60 + jc))) p cc (jc + 1) := by
      refine ⟨fun j _ => ?_, fun y _ => ?_⟩
      · simp only [r2]
        refine ⟨?_, ?_, ?_⟩ <;> rw [if_neg (by omega)]
      · rw [r2, if_neg (by omega)]
    refine ⟨x_wA M2 (p + 8) dp (xI (60 + jc)), 60 + jc, jc + 1, rfl, ⟨j1.1, j1.2.1, j1.2.2.1, j1.2.2.2.1, j1.2.2.2.2.1, dpb, clo_ag j1.2.2.2.2.2.2.1 ag (Nat.le_refl _), fun y hy => by rw [ag.2 y hy]; exact j1.2.2.2.2.2.2.2 y hy⟩, by rw [r2, if_pos ⟨rfl, rfl⟩], j3, by unfold vld; have := hI.2.2.2.1; omega, by rw [r2, if_neg (by omega), j5 _ _ (by omega)]; exact (f6 dp).1, by rw [r2, if_neg (by omega), j5 _ _ (by omega)]; exact f5, fun i hi => ?_, agM_trans f3 (agM_trans (agM_mono j2 hcc hjc) ag hcc (by omega)) (Nat.le_refl _) (Nat.le_refl _), ?_, by simp, fun a => ?_, fr_trans f8 (fr_trans fj (fr_wA _ _ _ _ (by unfold qN'; omega))), fun h => absurd h (by simp), fun _ => rfl⟩
    · simp only [r2]
      obtain ⟨z1, z2, z3⟩ := f7 i hi
      refine ⟨?_, ?_, ?_⟩ <;> rw [if_neg (by omega), j5 _ _ (by omega)] <;> assumption
    · exact clo_ag (clo_ag (clo_ag h0 f3 (Nat.le_refl _)) j2 hjc) ag (by omega)
    · rw [tv_congr j1.2.2.2.1 j1.2.2.2.2.1 j1.2.2.2.2.2.2.1 ag a (jc + 1) (Nat.le_refl _) _ j3, j4 a, if_neg (by decide), f4 a]
      have c4 := hI.2.2.2.1
      have c5 := hI.2.2.2.2.1
      have e1 : tvL M1 p a jc b0 = tvL M p a jc0 b0 := by
        rw [tv_le M1 p a hjc (by unfold vld at hb2; omega), tv_congr (by omega) (by omega) h0 f3 a jc0 (Nat.le_refl _) b0 hb2]
      rw [e1]
      rfl
